theorem d_Ps_init_0 : decode b_Ps_init 0 = .ok (.aload_n 0, 1) := by decide +kernel
theorem d_Ps_init_1 : decode b_Ps_init 1 = .ok (.invokespecial 3, 3) := by decide +kernel
theorem d_Ps_init_4 : decode b_Ps_init 4 = .ok (.aload_n 0, 1) := by decide +kernel
theorem d_Ps_init_5 : decode b_Ps_init 5 = .ok (.bipush 6, 2) := by decide +kernel
theorem d_Ps_init_7 : decode b_Ps_init 7 = .ok (.newarray .int, 2) := by decide +kernel
theorem d_Ps_init_9 : decode b_Ps_init 9 = .ok (.putfield 9, 3) := by decide +kernel
theorem d_Ps_init_12 : decode b_Ps_init 12 = .ok (.aload_n 0, 1) := by decide +kernel
theorem d_Ps_init_13 : decode b_Ps_init 13 = .ok (.new 13, 3) := by decide +kernel
theorem d_Ps_init_16 : decode b_Ps_init 16 = .ok (.dup, 1) := by decide +kernel
theorem d_Ps_init_17 : decode b_Ps_init 17 = .ok (.invokespecial 15, 3) := by decide +kernel
theorem d_Ps_init_20 : decode b_Ps_init 20 = .ok (.putfield 16, 3) := by decide +kernel
theorem d_Ps_init_23 : decode b_Ps_init 23 = .ok (.aload_n 0, 1) := by decide +kernel
theorem d_Ps_init_24 : decode b_Ps_init 24 = .ok (.new 20, 3) := by decide +kernel
theorem d_Ps_init_27 : decode b_Ps_init 27 = .ok (.dup, 1) := by decide +kernel
theorem d_Ps_init_28 : decode b_Ps_init 28 = .ok (.invokespecial 22, 3) := by decide +kernel
theorem d_Ps_init_31 : decode b_Ps_init 31 = .ok (.putfield 23, 3) := by decide +kernel
theorem d_Ps_init_34 : decode b_Ps_init 34 = .ok (.aload_n 0, 1) := by decide +kernel
theorem d_Ps_init_35 : decode b_Ps_init 35 = .ok (.new 27, 3) := by decide +kernel
theorem d_Ps_init_38 : decode b_Ps_init 38 = .ok (.dup, 1) := by decide +kernel
theorem d_Ps_init_39 : decode b_Ps_init 39 = .ok (.invokespecial 29, 3) := by decide +kernel
theorem d_Ps_init_42 : decode b_Ps_init 42 = .ok (.putfield 30, 3) := by decide +kernel
theorem d_Ps_init_45 : decode b_Ps_init 45 = .ok (.aload_n 0, 1) := by decide +kernel
theorem d_Ps_init_46 : decode b_Ps_init 46 = .ok (.new 34, 3) := by decide +kernel
theorem d_Ps_init_49 : decode b_Ps_init 49 = .ok (.dup, 1) := by decide +kernel
theorem d_Ps_init_50 : decode b_Ps_init 50 = .ok (.invokespecial 36, 3) := by decide +kernel
theorem d_Ps_init_53 : decode b_Ps_init 53 = .ok (.putfield 37, 3) := by decide +kernel
theorem d_Ps_init_56 : decode b_Ps_init 56 = .ok (.aload_n 0, 1) := by decide +kernel
theorem d_Ps_init_57 : decode b_Ps_init 57 = .ok (.iconst 1, 1) := by decide +kernel
theorem d_Ps_init_58 : decode b_Ps_init 58 = .ok (.iconst 0, 1) := by decide +kernel
theorem d_Ps_init_59 : decode b_Ps_init 59 = .ok (.invokevirtual 41, 3) := by decide +kernel
theorem d_Ps_init_62 : decode b_Ps_init 62 = .ok (.return_, 1) := by decide +kernel
theorem d_Ps_begin_0 : decode b_Ps_begin 0 = .ok (.iload_n 1, 1) := by decide +kernel
theorem d_Ps_begin_1 : decode b_Ps_begin 1 = .ok (.invokestatic 45, 3) := by decide +kernel
theorem d_Ps_begin_4 : decode b_Ps_begin 4 = .ok (.ifCond .eq 14, 3) := by decide +kernel
theorem d_Ps_begin_7 : decode b_Ps_begin 7 = .ok (.iload_n 2, 1) := by decide +kernel
theorem d_Ps_begin_8 : decode b_Ps_begin 8 = .ok (.ifCond .lt 10, 3) := by decide +kernel
theorem d_Ps_begin_11 : decode b_Ps_begin 11 = .ok (.iload_n 2, 1) := by decide +kernel
theorem d_Ps_begin_12 : decode b_Ps_begin 12 = .ok (.iconst 1, 1) := by decide +kernel
theorem d_Ps_begin_13 : decode b_Ps_begin 13 = .ok (.iload_n 1, 1) := by decide +kernel
theorem d_Ps_begin_14 : decode b_Ps_begin 14 = .ok (.ishl, 1) := by decide +kernel
theorem d_Ps_begin_15 : decode b_Ps_begin 15 = .ok (.if_icmp .lt 5, 3) := by decide +kernel
theorem d_Ps_begin_18 : decode b_Ps_begin 18 = .ok (.iconst 0, 1) := by decide +kernel
theorem d_Ps_begin_19 : decode b_Ps_begin 19 = .ok (.ireturn, 1) := by decide +kernel
theorem d_Ps_begin_20 : decode b_Ps_begin 20 = .ok (.aload_n 0, 1) := by decide +kernel
theorem d_Ps_begin_21 : decode b_Ps_begin 21 = .ok (.iload_n 1, 1) := by decide +kernel
theorem d_Ps_begin_22 : decode b_Ps_begin 22 = .ok (.iconst 0, 1) := by decide +kernel
theorem d_Ps_begin_23 : decode b_Ps_begin 23 = .ok (.invokevirtual 41, 3) := by decide +kernel
theorem d_Ps_begin_26 : decode b_Ps_begin 26 = .ok (.iconst 0, 1) := by decide +kernel
theorem d_Ps_begin_27 : decode b_Ps_begin 27 = .ok (.istore_n 3, 1) := by decide +kernel
theorem d_Ps_begin_28 : decode b_Ps_begin 28 = .ok (.iload_n 3, 1) := by decide +kernel
theorem d_Ps_begin_29 : decode b_Ps_begin 29 = .ok (.iload_n 1, 1) := by decide +kernel
theorem d_Ps_begin_30 : decode b_Ps_begin 30 = .ok (.if_icmp .ge 29, 3) := by decide +kernel
theorem d_Ps_begin_33 : decode b_Ps_begin 33 = .ok (.aload_n 0, 1) := by decide +kernel
theorem d_Ps_begin_34 : decode b_Ps_begin 34 = .ok (.getfield 9, 3) := by decide +kernel
theorem d_Ps_begin_37 : decode b_Ps_begin 37 = .ok (.iload_n 3, 1) := by decide +kernel
theorem d_Ps_begin_38 : decode b_Ps_begin 38 = .ok (.iload_n 2, 1) := by decide +kernel
theorem d_Ps_begin_39 : decode b_Ps_begin 39 = .ok (.iload_n 3, 1) := by decide +kernel
theorem d_Ps_begin_40 : decode b_Ps_begin 40 = .ok (.invokestatic 49, 3) := by decide +kernel
theorem d_Ps_begin_43 : decode b_Ps_begin 43 = .ok (.ifCond .eq 8, 3) := by decide +kernel
theorem d_Ps_begin_46 : decode b_Ps_begin 46 = .ok (.ldc 53, 2) := by decide +kernel
theorem d_Ps_begin_48 : decode b_Ps_begin 48 = .ok (.goto 4, 3) := by decide +kernel
theorem d_Ps_begin_51 : decode b_Ps_begin 51 = .ok (.iconst 0, 1) := by decide +kernel
theorem d_Ps_begin_52 : decode b_Ps_begin 52 = .ok (.iastore, 1) := by decide +kernel
theorem d_Ps_begin_53 : decode b_Ps_begin 53 = .ok (.iinc 3 1, 3) := by decide +kernel
theorem d_Ps_begin_56 : decode b_Ps_begin 56 = .ok (.goto (-28), 3) := by decide +kernel
theorem d_Ps_begin_59 : decode b_Ps_begin 59 = .ok (.iconst 1, 1) := by decide +kernel
theorem d_Ps_begin_60 : decode b_Ps_begin 60 = .ok (.ireturn, 1) := by decide +kernel
theorem d_Ps_open_0 : decode b_Ps_open 0 = .ok (.iload_n 1, 1) := by decide +kernel
theorem d_Ps_open_1 : decode b_Ps_open 1 = .ok (.invokestatic 45, 3) := by decide +kernel
theorem d_Ps_open_4 : decode b_Ps_open 4 = .ok (.ifCond .ne 5, 3) := by decide +kernel
theorem d_Ps_open_7 : decode b_Ps_open 7 = .ok (.iconst 0, 1) := by decide +kernel
theorem d_Ps_open_8 : decode b_Ps_open 8 = .ok (.ireturn, 1) := by decide +kernel
theorem d_Ps_open_9 : decode b_Ps_open 9 = .ok (.aload_n 0, 1) := by decide +kernel
theorem d_Ps_open_10 : decode b_Ps_open 10 = .ok (.iload_n 1, 1) := by decide +kernel
theorem d_Ps_open_11 : decode b_Ps_open 11 = .ok (.iconst 1, 1) := by decide +kernel
theorem d_Ps_open_12 : decode b_Ps_open 12 = .ok (.invokevirtual 41, 3) := by decide +kernel
theorem d_Ps_open_15 : decode b_Ps_open 15 = .ok (.iconst 0, 1) := by decide +kernel
theorem d_Ps_open_16 : decode b_Ps_open 16 = .ok (.istore_n 2, 1) := by decide +kernel
theorem d_Ps_open_17 : decode b_Ps_open 17 = .ok (.iload_n 2, 1) := by decide +kernel
theorem d_Ps_open_18 : decode b_Ps_open 18 = .ok (.iload_n 1, 1) := by decide +kernel
theorem d_Ps_open_19 : decode b_Ps_open 19 = .ok (.if_icmp .ge 18, 3) := by decide +kernel
theorem d_Ps_open_22 : decode b_Ps_open 22 = .ok (.aload_n 0, 1) := by decide +kernel
theorem d_Ps_open_23 : decode b_Ps_open 23 = .ok (.getfield 9, 3) := by decide +kernel
theorem d_Ps_open_26 : decode b_Ps_open 26 = .ok (.iload_n 2, 1) := by decide +kernel
theorem d_Ps_open_27 : decode b_Ps_open 27 = .ok (.iconst 1, 1) := by decide +kernel
theorem d_Ps_open_28 : decode b_Ps_open 28 = .ok (.iload_n 2, 1) := by decide +kernel
theorem d_Ps_open_29 : decode b_Ps_open 29 = .ok (.ishl, 1) := by decide +kernel
theorem d_Ps_open_30 : decode b_Ps_open 30 = .ok (.iastore, 1) := by decide +kernel
theorem d_Ps_open_31 : decode b_Ps_open 31 = .ok (.iinc 2 1, 3) := by decide +kernel
theorem d_Ps_open_34 : decode b_Ps_open 34 = .ok (.goto (-17), 3) := by decide +kernel
theorem d_Ps_open_37 : decode b_Ps_open 37 = .ok (.aload_n 0, 1) := by decide +kernel
theorem d_Ps_open_38 : decode b_Ps_open 38 = .ok (.iload_n 1, 1) := by decide +kernel
theorem d_Ps_open_39 : decode b_Ps_open 39 = .ok (.putfield 54, 3) := by decide +kernel
theorem d_Ps_open_42 : decode b_Ps_open 42 = .ok (.aload_n 0, 1) := by decide +kernel
theorem d_Ps_open_43 : decode b_Ps_open 43 = .ok (.iconst 1, 1) := by decide +kernel
theorem d_Ps_open_44 : decode b_Ps_open 44 = .ok (.iload_n 1, 1) := by decide +kernel
theorem d_Ps_open_45 : decode b_Ps_open 45 = .ok (.ishl, 1) := by decide +kernel
theorem d_Ps_open_46 : decode b_Ps_open 46 = .ok (.iconst 1, 1) := by decide +kernel
theorem d_Ps_open_47 : decode b_Ps_open 47 = .ok (.isub, 1) := by decide +kernel
theorem d_Ps_open_48 : decode b_Ps_open 48 = .ok (.putfield 58, 3) := by decide +kernel
theorem d_Ps_open_51 : decode b_Ps_open 51 = .ok (.aload_n 0, 1) := by decide +kernel
theorem d_Ps_open_52 : decode b_Ps_open 52 = .ok (.aload_n 0, 1) := by decide +kernel
theorem d_Ps_open_53 : decode b_Ps_open 53 = .ok (.getfield 58, 3) := by decide +kernel
theorem d_Ps_open_56 : decode b_Ps_open 56 = .ok (.putfield 61, 3) := by decide +kernel
theorem d_Ps_open_59 : decode b_Ps_open 59 = .ok (.iconst 1, 1) := by decide +kernel
theorem d_Ps_open_60 : decode b_Ps_open 60 = .ok (.ireturn, 1) := by decide +kernel
theorem d_Ps_gate_0 : decode b_Ps_gate 0 = .ok (.aload_n 0, 1) := by decide +kernel
theorem d_Ps_gate_1 : decode b_Ps_gate 1 = .ok (.getfield 64, 3) := by decide +kernel
theorem d_Ps_gate_4 : decode b_Ps_gate 4 = .ok (.ifCond .ne 15, 3) := by decide +kernel
theorem d_Ps_gate_7 : decode b_Ps_gate 7 = .ok (.aload_n 0, 1) := by decide +kernel
theorem d_Ps_gate_8 : decode b_Ps_gate 8 = .ok (.iload_n 1, 1) := by decide +kernel
theorem d_Ps_gate_9 : decode b_Ps_gate 9 = .ok (.iload_n 2, 1) := by decide +kernel
theorem d_Ps_gate_10 : decode b_Ps_gate 10 = .ok (.iload_n 3, 1) := by decide +kernel
theorem d_Ps_gate_11 : decode b_Ps_gate 11 = .ok (.iload 4, 2) := by decide +kernel
theorem d_Ps_gate_13 : decode b_Ps_gate 13 = .ok (.invokevirtual 68, 3) := by decide +kernel
theorem d_Ps_gate_16 : decode b_Ps_gate 16 = .ok (.ifCond .ne 5, 3) := by decide +kernel
theorem d_Ps_gate_19 : decode b_Ps_gate 19 = .ok (.iconst 0, 1) := by decide +kernel
theorem d_Ps_gate_20 : decode b_Ps_gate 20 = .ok (.ireturn, 1) := by decide +kernel
theorem d_Ps_gate_21 : decode b_Ps_gate 21 = .ok (.iload_n 1, 1) := by decide +kernel
theorem d_Ps_gate_22 : decode b_Ps_gate 22 = .ok (.ifCond .ne 17, 3) := by decide +kernel
theorem d_Ps_gate_25 : decode b_Ps_gate 25 = .ok (.aload_n 0, 1) := by decide +kernel
theorem d_Ps_gate_26 : decode b_Ps_gate 26 = .ok (.getfield 9, 3) := by decide +kernel
theorem d_Ps_gate_29 : decode b_Ps_gate 29 = .ok (.iload_n 2, 1) := by decide +kernel
theorem d_Ps_gate_30 : decode b_Ps_gate 30 = .ok (.dup2, 1) := by decide +kernel
theorem d_Ps_gate_31 : decode b_Ps_gate 31 = .ok (.iaload, 1) := by decide +kernel
theorem d_Ps_gate_32 : decode b_Ps_gate 32 = .ok (.ldc 53, 2) := by decide +kernel
theorem d_Ps_gate_34 : decode b_Ps_gate 34 = .ok (.ixor, 1) := by decide +kernel
theorem d_Ps_gate_35 : decode b_Ps_gate 35 = .ok (.iastore, 1) := by decide +kernel
theorem d_Ps_gate_36 : decode b_Ps_gate 36 = .ok (.goto 163, 3) := by decide +kernel
theorem d_Ps_gate_39 : decode b_Ps_gate 39 = .ok (.iload_n 1, 1) := by decide +kernel
theorem d_Ps_gate_40 : decode b_Ps_gate 40 = .ok (.iconst 1, 1) := by decide +kernel
theorem d_Ps_gate_41 : decode b_Ps_gate 41 = .ok (.if_icmp .ne 21, 3) := by decide +kernel
theorem d_Ps_gate_44 : decode b_Ps_gate 44 = .ok (.aload_n 0, 1) := by decide +kernel
theorem d_Ps_gate_45 : decode b_Ps_gate 45 = .ok (.getfield 9, 3) := by decide +kernel
theorem d_Ps_gate_48 : decode b_Ps_gate 48 = .ok (.iload_n 2, 1) := by decide +kernel
theorem d_Ps_gate_49 : decode b_Ps_gate 49 = .ok (.dup2, 1) := by decide +kernel
theorem d_Ps_gate_50 : decode b_Ps_gate 50 = .ok (.iaload, 1) := by decide +kernel
theorem d_Ps_gate_51 : decode b_Ps_gate 51 = .ok (.aload_n 0, 1) := by decide +kernel
theorem d_Ps_gate_52 : decode b_Ps_gate 52 = .ok (.getfield 9, 3) := by decide +kernel
theorem d_Ps_gate_55 : decode b_Ps_gate 55 = .ok (.iload_n 3, 1) := by decide +kernel
theorem d_Ps_gate_56 : decode b_Ps_gate 56 = .ok (.iaload, 1) := by decide +kernel
theorem d_Ps_gate_57 : decode b_Ps_gate 57 = .ok (.ixor, 1) := by decide +kernel
theorem d_Ps_gate_58 : decode b_Ps_gate 58 = .ok (.iastore, 1) := by decide +kernel
theorem d_Ps_gate_59 : decode b_Ps_gate 59 = .ok (.goto 140, 3) := by decide +kernel
theorem d_Ps_gate_62 : decode b_Ps_gate 62 = .ok (.iload_n 1, 1) := by decide +kernel
theorem d_Ps_gate_63 : decode b_Ps_gate 63 = .ok (.iconst 2, 1) := by decide +kernel
theorem d_Ps_gate_64 : decode b_Ps_gate 64 = .ok (.if_icmp .ne 34, 3) := by decide +kernel
theorem d_Ps_gate_67 : decode b_Ps_gate 67 = .ok (.aload_n 0, 1) := by decide +kernel
theorem d_Ps_gate_68 : decode b_Ps_gate 68 = .ok (.getfield 9, 3) := by decide +kernel
theorem d_Ps_gate_71 : decode b_Ps_gate 71 = .ok (.iload_n 2, 1) := by decide +kernel
theorem d_Ps_gate_72 : decode b_Ps_gate 72 = .ok (.iaload, 1) := by decide +kernel
theorem d_Ps_gate_73 : decode b_Ps_gate 73 = .ok (.istore 5, 2) := by decide +kernel
theorem d_Ps_gate_75 : decode b_Ps_gate 75 = .ok (.aload_n 0, 1) := by decide +kernel
theorem d_Ps_gate_76 : decode b_Ps_gate 76 = .ok (.getfield 9, 3) := by decide +kernel
theorem d_Ps_gate_79 : decode b_Ps_gate 79 = .ok (.iload_n 2, 1) := by decide +kernel
theorem d_Ps_gate_80 : decode b_Ps_gate 80 = .ok (.aload_n 0, 1) := by decide +kernel
theorem d_Ps_gate_81 : decode b_Ps_gate 81 = .ok (.getfield 9, 3) := by decide +kernel
theorem d_Ps_gate_84 : decode b_Ps_gate 84 = .ok (.iload_n 3, 1) := by decide +kernel
theorem d_Ps_gate_85 : decode b_Ps_gate 85 = .ok (.iaload, 1) := by decide +kernel
theorem d_Ps_gate_86 : decode b_Ps_gate 86 = .ok (.iastore, 1) := by decide +kernel
theorem d_Ps_gate_87 : decode b_Ps_gate 87 = .ok (.aload_n 0, 1) := by decide +kernel
theorem d_Ps_gate_88 : decode b_Ps_gate 88 = .ok (.getfield 9, 3) := by decide +kernel
theorem d_Ps_gate_91 : decode b_Ps_gate 91 = .ok (.iload_n 3, 1) := by decide +kernel
theorem d_Ps_gate_92 : decode b_Ps_gate 92 = .ok (.iload 5, 2) := by decide +kernel
theorem d_Ps_gate_94 : decode b_Ps_gate 94 = .ok (.iastore, 1) := by decide +kernel
theorem d_Ps_gate_95 : decode b_Ps_gate 95 = .ok (.goto 104, 3) := by decide +kernel
theorem d_Ps_gate_98 : decode b_Ps_gate 98 = .ok (.iload_n 1, 1) := by decide +kernel
theorem d_Ps_gate_99 : decode b_Ps_gate 99 = .ok (.bipush 7, 2) := by decide +kernel
theorem d_Ps_gate_101 : decode b_Ps_gate 101 = .ok (.if_icmp .gt 27, 3) := by decide +kernel
theorem d_Ps_gate_104 : decode b_Ps_gate 104 = .ok (.aload_n 0, 1) := by decide +kernel
theorem d_Ps_gate_105 : decode b_Ps_gate 105 = .ok (.getfield 16, 3) := by decide +kernel
theorem d_Ps_gate_108 : decode b_Ps_gate 108 = .ok (.getstatic 72, 3) := by decide +kernel
theorem d_Ps_gate_111 : decode b_Ps_gate 111 = .ok (.iload_n 1, 1) := by decide +kernel
theorem d_Ps_gate_112 : decode b_Ps_gate 112 = .ok (.iconst 3, 1) := by decide +kernel
theorem d_Ps_gate_113 : decode b_Ps_gate 113 = .ok (.isub, 1) := by decide +kernel
theorem d_Ps_gate_114 : decode b_Ps_gate 114 = .ok (.iaload, 1) := by decide +kernel
theorem d_Ps_gate_115 : decode b_Ps_gate 115 = .ok (.aload_n 0, 1) := by decide +kernel
theorem d_Ps_gate_116 : decode b_Ps_gate 116 = .ok (.getfield 9, 3) := by decide +kernel
theorem d_Ps_gate_119 : decode b_Ps_gate 119 = .ok (.iload_n 2, 1) := by decide +kernel
theorem d_Ps_gate_120 : decode b_Ps_gate 120 = .ok (.iaload, 1) := by decide +kernel
theorem d_Ps_gate_121 : decode b_Ps_gate 121 = .ok (.iconst 0, 1) := by decide +kernel
theorem d_Ps_gate_122 : decode b_Ps_gate 122 = .ok (.invokevirtual 75, 3) := by decide +kernel
theorem d_Ps_gate_125 : decode b_Ps_gate 125 = .ok (.goto 74, 3) := by decide +kernel
theorem d_Ps_gate_128 : decode b_Ps_gate 128 = .ok (.iload_n 1, 1) := by decide +kernel
theorem d_Ps_gate_129 : decode b_Ps_gate 129 = .ok (.bipush 8, 2) := by decide +kernel
theorem d_Ps_gate_131 : decode b_Ps_gate 131 = .ok (.if_icmp .ne 27, 3) := by decide +kernel
theorem d_Ps_gate_134 : decode b_Ps_gate 134 = .ok (.aload_n 0, 1) := by decide +kernel
theorem d_Ps_gate_135 : decode b_Ps_gate 135 = .ok (.getfield 16, 3) := by decide +kernel
theorem d_Ps_gate_138 : decode b_Ps_gate 138 = .ok (.aload_n 0, 1) := by decide +kernel
theorem d_Ps_gate_139 : decode b_Ps_gate 139 = .ok (.getfield 9, 3) := by decide +kernel
theorem d_Ps_gate_142 : decode b_Ps_gate 142 = .ok (.iload_n 2, 1) := by decide +kernel
theorem d_Ps_gate_143 : decode b_Ps_gate 143 = .ok (.iaload, 1) := by decide +kernel
theorem d_Ps_gate_144 : decode b_Ps_gate 144 = .ok (.aload_n 0, 1) := by decide +kernel
theorem d_Ps_gate_145 : decode b_Ps_gate 145 = .ok (.getfield 9, 3) := by decide +kernel
theorem d_Ps_gate_148 : decode b_Ps_gate 148 = .ok (.iload_n 3, 1) := by decide +kernel
theorem d_Ps_gate_149 : decode b_Ps_gate 149 = .ok (.iaload, 1) := by decide +kernel
theorem d_Ps_gate_150 : decode b_Ps_gate 150 = .ok (.ldc 53, 2) := by decide +kernel
theorem d_Ps_gate_152 : decode b_Ps_gate 152 = .ok (.invokevirtual 79, 3) := by decide +kernel
theorem d_Ps_gate_155 : decode b_Ps_gate 155 = .ok (.goto 44, 3) := by decide +kernel
theorem d_Ps_gate_158 : decode b_Ps_gate 158 = .ok (.iload_n 1, 1) := by decide +kernel
theorem d_Ps_gate_159 : decode b_Ps_gate 159 = .ok (.bipush 9, 2) := by decide +kernel
theorem d_Ps_gate_161 : decode b_Ps_gate 161 = .ok (.if_icmp .ne 32, 3) := by decide +kernel
theorem d_Ps_gate_164 : decode b_Ps_gate 164 = .ok (.aload_n 0, 1) := by decide +kernel
theorem d_Ps_gate_165 : decode b_Ps_gate 165 = .ok (.getfield 16, 3) := by decide +kernel
theorem d_Ps_gate_168 : decode b_Ps_gate 168 = .ok (.aload_n 0, 1) := by decide +kernel
theorem d_Ps_gate_169 : decode b_Ps_gate 169 = .ok (.getfield 9, 3) := by decide +kernel
theorem d_Ps_gate_172 : decode b_Ps_gate 172 = .ok (.iload_n 2, 1) := by decide +kernel
theorem d_Ps_gate_173 : decode b_Ps_gate 173 = .ok (.iaload, 1) := by decide +kernel
theorem d_Ps_gate_174 : decode b_Ps_gate 174 = .ok (.aload_n 0, 1) := by decide +kernel
theorem d_Ps_gate_175 : decode b_Ps_gate 175 = .ok (.getfield 9, 3) := by decide +kernel
theorem d_Ps_gate_178 : decode b_Ps_gate 178 = .ok (.iload_n 3, 1) := by decide +kernel
theorem d_Ps_gate_179 : decode b_Ps_gate 179 = .ok (.iaload, 1) := by decide +kernel
theorem d_Ps_gate_180 : decode b_Ps_gate 180 = .ok (.aload_n 0, 1) := by decide +kernel
theorem d_Ps_gate_181 : decode b_Ps_gate 181 = .ok (.getfield 9, 3) := by decide +kernel
theorem d_Ps_gate_184 : decode b_Ps_gate 184 = .ok (.iload 4, 2) := by decide +kernel
theorem d_Ps_gate_186 : decode b_Ps_gate 186 = .ok (.iaload, 1) := by decide +kernel
theorem d_Ps_gate_187 : decode b_Ps_gate 187 = .ok (.invokevirtual 79, 3) := by decide +kernel
theorem d_Ps_gate_190 : decode b_Ps_gate 190 = .ok (.goto 9, 3) := by decide +kernel
theorem d_Ps_gate_193 : decode b_Ps_gate 193 = .ok (.aload_n 0, 1) := by decide +kernel
theorem d_Ps_gate_194 : decode b_Ps_gate 194 = .ok (.iload_n 1, 1) := by decide +kernel
theorem d_Ps_gate_195 : decode b_Ps_gate 195 = .ok (.iload_n 2, 1) := by decide +kernel
theorem d_Ps_gate_196 : decode b_Ps_gate 196 = .ok (.invokevirtual 82, 3) := by decide +kernel
theorem d_Ps_gate_199 : decode b_Ps_gate 199 = .ok (.iconst 1, 1) := by decide +kernel
theorem d_Ps_gate_200 : decode b_Ps_gate 200 = .ok (.ireturn, 1) := by decide +kernel
theorem d_Ps_reduce_0 : decode b_Ps_reduce 0 = .ok (.iconst 0, 1) := by decide +kernel
theorem d_Ps_reduce_1 : decode b_Ps_reduce 1 = .ok (.istore_n 1, 1) := by decide +kernel
theorem d_Ps_reduce_2 : decode b_Ps_reduce 2 = .ok (.aload_n 0, 1) := by decide +kernel
theorem d_Ps_reduce_3 : decode b_Ps_reduce 3 = .ok (.invokevirtual 86, 3) := by decide +kernel
theorem d_Ps_reduce_6 : decode b_Ps_reduce 6 = .ok (.istore_n 2, 1) := by decide +kernel
theorem d_Ps_reduce_7 : decode b_Ps_reduce 7 = .ok (.iload_n 2, 1) := by decide +kernel
theorem d_Ps_reduce_8 : decode b_Ps_reduce 8 = .ok (.iconst (-1), 1) := by decide +kernel
theorem d_Ps_reduce_9 : decode b_Ps_reduce 9 = .ok (.if_icmp .eq 30, 3) := by decide +kernel
theorem d_Ps_reduce_12 : decode b_Ps_reduce 12 = .ok (.iload_n 1, 1) := by decide +kernel
theorem d_Ps_reduce_13 : decode b_Ps_reduce 13 = .ok (.bipush 24, 2) := by decide +kernel
theorem d_Ps_reduce_15 : decode b_Ps_reduce 15 = .ok (.if_icmp .ge 24, 3) := by decide +kernel
theorem d_Ps_reduce_18 : decode b_Ps_reduce 18 = .ok (.aload_n 0, 1) := by decide +kernel
theorem d_Ps_reduce_19 : decode b_Ps_reduce 19 = .ok (.aload_n 0, 1) := by decide +kernel
theorem d_Ps_reduce_20 : decode b_Ps_reduce 20 = .ok (.iload_n 2, 1) := by decide +kernel
theorem d_Ps_reduce_21 : decode b_Ps_reduce 21 = .ok (.invokevirtual 90, 3) := by decide +kernel
theorem d_Ps_reduce_24 : decode b_Ps_reduce 24 = .ok (.iload_n 2, 1) := by decide +kernel
theorem d_Ps_reduce_25 : decode b_Ps_reduce 25 = .ok (.invokevirtual 94, 3) := by decide +kernel
theorem d_Ps_reduce_28 : decode b_Ps_reduce 28 = .ok (.iinc 1 1, 3) := by decide +kernel
theorem d_Ps_reduce_31 : decode b_Ps_reduce 31 = .ok (.aload_n 0, 1) := by decide +kernel
theorem d_Ps_reduce_32 : decode b_Ps_reduce 32 = .ok (.invokevirtual 86, 3) := by decide +kernel
theorem d_Ps_reduce_35 : decode b_Ps_reduce 35 = .ok (.istore_n 2, 1) := by decide +kernel
theorem d_Ps_reduce_36 : decode b_Ps_reduce 36 = .ok (.goto (-29), 3) := by decide +kernel
theorem d_Ps_reduce_39 : decode b_Ps_reduce 39 = .ok (.iload_n 1, 1) := by decide +kernel
theorem d_Ps_reduce_40 : decode b_Ps_reduce 40 = .ok (.ireturn, 1) := by decide +kernel
theorem d_Ps_rule_0 : decode b_Ps_rule 0 = .ok (.aload_n 0, 1) := by decide +kernel
theorem d_Ps_rule_1 : decode b_Ps_rule 1 = .ok (.getfield 23, 3) := by decide +kernel
theorem d_Ps_rule_4 : decode b_Ps_rule 4 = .ok (.iload_n 1, 1) := by decide +kernel
theorem d_Ps_rule_5 : decode b_Ps_rule 5 = .ok (.iload_n 2, 1) := by decide +kernel
theorem d_Ps_rule_6 : decode b_Ps_rule 6 = .ok (.invokevirtual 97, 3) := by decide +kernel
theorem d_Ps_rule_9 : decode b_Ps_rule 9 = .ok (.ireturn, 1) := by decide +kernel
theorem d_Ps_term_0 : decode b_Ps_term 0 = .ok (.iload_n 1, 1) := by decide +kernel
theorem d_Ps_term_1 : decode b_Ps_term 1 = .ok (.aload_n 0, 1) := by decide +kernel
theorem d_Ps_term_2 : decode b_Ps_term 2 = .ok (.getfield 54, 3) := by decide +kernel
theorem d_Ps_term_5 : decode b_Ps_term 5 = .ok (.iushr, 1) := by decide +kernel
theorem d_Ps_term_6 : decode b_Ps_term 6 = .ok (.ifCond .ne 11, 3) := by decide +kernel
theorem d_Ps_term_9 : decode b_Ps_term 9 = .ok (.iload_n 1, 1) := by decide +kernel
theorem d_Ps_term_10 : decode b_Ps_term 10 = .ok (.invokestatic 101, 3) := by decide +kernel
theorem d_Ps_term_13 : decode b_Ps_term 13 = .ok (.iconst 3, 1) := by decide +kernel
theorem d_Ps_term_14 : decode b_Ps_term 14 = .ok (.if_icmp .le 5, 3) := by decide +kernel
theorem d_Ps_term_17 : decode b_Ps_term 17 = .ok (.iconst (-1), 1) := by decide +kernel
theorem d_Ps_term_18 : decode b_Ps_term 18 = .ok (.ireturn, 1) := by decide +kernel
theorem d_Ps_term_19 : decode b_Ps_term 19 = .ok (.aload_n 0, 1) := by decide +kernel
theorem d_Ps_term_20 : decode b_Ps_term 20 = .ok (.getfield 16, 3) := by decide +kernel
theorem d_Ps_term_23 : decode b_Ps_term 23 = .ok (.iload_n 1, 1) := by decide +kernel
theorem d_Ps_term_24 : decode b_Ps_term 24 = .ok (.invokevirtual 106, 3) := by decide +kernel
theorem d_Ps_term_27 : decode b_Ps_term 27 = .ok (.ireturn, 1) := by decide +kernel
theorem d_Ps_wire_0 : decode b_Ps_wire 0 = .ok (.aload_n 0, 1) := by decide +kernel
theorem d_Ps_wire_1 : decode b_Ps_wire 1 = .ok (.iload_n 1, 1) := by decide +kernel
theorem d_Ps_wire_2 : decode b_Ps_wire 2 = .ok (.invokevirtual 109, 3) := by decide +kernel
theorem d_Ps_wire_5 : decode b_Ps_wire 5 = .ok (.ifCond .ne 5, 3) := by decide +kernel
theorem d_Ps_wire_8 : decode b_Ps_wire 8 = .ok (.iconst (-1), 1) := by decide +kernel
theorem d_Ps_wire_9 : decode b_Ps_wire 9 = .ok (.ireturn, 1) := by decide +kernel
theorem d_Ps_wire_10 : decode b_Ps_wire 10 = .ok (.iload_n 2, 1) := by decide +kernel
theorem d_Ps_wire_11 : decode b_Ps_wire 11 = .ok (.lookupswitch 55 #[(0, 25), (1, 35)], 25) := by decide +kernel
theorem d_Ps_wire_36 : decode b_Ps_wire 36 = .ok (.aload_n 0, 1) := by decide +kernel
theorem d_Ps_wire_37 : decode b_Ps_wire 37 = .ok (.getfield 9, 3) := by decide +kernel
theorem d_Ps_wire_40 : decode b_Ps_wire 40 = .ok (.iload_n 1, 1) := by decide +kernel
theorem d_Ps_wire_41 : decode b_Ps_wire 41 = .ok (.iaload, 1) := by decide +kernel
theorem d_Ps_wire_42 : decode b_Ps_wire 42 = .ok (.ldc 112, 2) := by decide +kernel
theorem d_Ps_wire_44 : decode b_Ps_wire 44 = .ok (.iand, 1) := by decide +kernel
theorem d_Ps_wire_45 : decode b_Ps_wire 45 = .ok (.ireturn, 1) := by decide +kernel
theorem d_Ps_wire_46 : decode b_Ps_wire 46 = .ok (.aload_n 0, 1) := by decide +kernel
theorem d_Ps_wire_47 : decode b_Ps_wire 47 = .ok (.getfield 9, 3) := by decide +kernel
theorem d_Ps_wire_50 : decode b_Ps_wire 50 = .ok (.iload_n 1, 1) := by decide +kernel
theorem d_Ps_wire_51 : decode b_Ps_wire 51 = .ok (.iaload, 1) := by decide +kernel
theorem d_Ps_wire_52 : decode b_Ps_wire 52 = .ok (.bipush 24, 2) := by decide +kernel
theorem d_Ps_wire_54 : decode b_Ps_wire 54 = .ok (.invokestatic 49, 3) := by decide +kernel
theorem d_Ps_wire_57 : decode b_Ps_wire 57 = .ok (.ifCond .eq 7, 3) := by decide +kernel
theorem d_Ps_wire_60 : decode b_Ps_wire 60 = .ok (.iconst 1, 1) := by decide +kernel
theorem d_Ps_wire_61 : decode b_Ps_wire 61 = .ok (.goto 4, 3) := by decide +kernel
theorem d_Ps_wire_64 : decode b_Ps_wire 64 = .ok (.iconst 0, 1) := by decide +kernel
theorem d_Ps_wire_65 : decode b_Ps_wire 65 = .ok (.ireturn, 1) := by decide +kernel
theorem d_Ps_wire_66 : decode b_Ps_wire 66 = .ok (.iconst (-1), 1) := by decide +kernel
theorem d_Ps_wire_67 : decode b_Ps_wire 67 = .ok (.ireturn, 1) := by decide +kernel
theorem d_Ps_value_0 : decode b_Ps_value 0 = .ok (.aload_n 0, 1) := by decide +kernel
theorem d_Ps_value_1 : decode b_Ps_value 1 = .ok (.getfield 113, 3) := by decide +kernel
theorem d_Ps_value_4 : decode b_Ps_value 4 = .ok (.ifCond .eq 15, 3) := by decide +kernel
theorem d_Ps_value_7 : decode b_Ps_value 7 = .ok (.aload_n 0, 1) := by decide +kernel
theorem d_Ps_value_8 : decode b_Ps_value 8 = .ok (.iload_n 1, 1) := by decide +kernel
theorem d_Ps_value_9 : decode b_Ps_value 9 = .ok (.invokevirtual 116, 3) := by decide +kernel
theorem d_Ps_value_12 : decode b_Ps_value 12 = .ok (.ifCond .ne 7, 3) := by decide +kernel
theorem d_Ps_value_15 : decode b_Ps_value 15 = .ok (.iconst 1, 1) := by decide +kernel
theorem d_Ps_value_16 : decode b_Ps_value 16 = .ok (.goto 4, 3) := by decide +kernel
theorem d_Ps_value_19 : decode b_Ps_value 19 = .ok (.iconst 0, 1) := by decide +kernel
theorem d_Ps_value_20 : decode b_Ps_value 20 = .ok (.istore 4, 2) := by decide +kernel
theorem d_Ps_value_22 : decode b_Ps_value 22 = .ok (.iload 4, 2) := by decide +kernel
theorem d_Ps_value_24 : decode b_Ps_value 24 = .ok (.ifCond .ne 20, 3) := by decide +kernel
theorem d_Ps_value_27 : decode b_Ps_value 27 = .ok (.aload_n 0, 1) := by decide +kernel
theorem d_Ps_value_28 : decode b_Ps_value 28 = .ok (.iload_n 2, 1) := by decide +kernel
theorem d_Ps_value_29 : decode b_Ps_value 29 = .ok (.invokevirtual 116, 3) := by decide +kernel
theorem d_Ps_value_32 : decode b_Ps_value 32 = .ok (.ifCond .eq 12, 3) := by decide +kernel
theorem d_Ps_value_35 : decode b_Ps_value 35 = .ok (.iload_n 3, 1) := by decide +kernel
theorem d_Ps_value_36 : decode b_Ps_value 36 = .ok (.ifCond .lt 8, 3) := by decide +kernel
theorem d_Ps_value_39 : decode b_Ps_value 39 = .ok (.iload_n 3, 1) := by decide +kernel
theorem d_Ps_value_40 : decode b_Ps_value 40 = .ok (.iconst 4, 1) := by decide +kernel
theorem d_Ps_value_41 : decode b_Ps_value 41 = .ok (.if_icmp .le 13, 3) := by decide +kernel
theorem d_Ps_value_44 : decode b_Ps_value 44 = .ok (.new 119, 3) := by decide +kernel
theorem d_Ps_value_47 : decode b_Ps_value 47 = .ok (.dup, 1) := by decide +kernel
theorem d_Ps_value_48 : decode b_Ps_value 48 = .ok (.ldc 121, 2) := by decide +kernel
theorem d_Ps_value_50 : decode b_Ps_value 50 = .ok (.invokespecial 123, 3) := by decide +kernel
theorem d_Ps_value_53 : decode b_Ps_value 53 = .ok (.athrow, 1) := by decide +kernel
theorem d_Ps_value_54 : decode b_Ps_value 54 = .ok (.aload_n 0, 1) := by decide +kernel
theorem d_Ps_value_55 : decode b_Ps_value 55 = .ok (.getfield 61, 3) := by decide +kernel
theorem d_Ps_value_58 : decode b_Ps_value 58 = .ok (.aload_n 0, 1) := by decide +kernel
theorem d_Ps_value_59 : decode b_Ps_value 59 = .ok (.getfield 58, 3) := by decide +kernel
theorem d_Ps_value_62 : decode b_Ps_value 62 = .ok (.iconst (-1), 1) := by decide +kernel
theorem d_Ps_value_63 : decode b_Ps_value 63 = .ok (.ixor, 1) := by decide +kernel
theorem d_Ps_value_64 : decode b_Ps_value 64 = .ok (.iand, 1) := by decide +kernel
theorem d_Ps_value_65 : decode b_Ps_value 65 = .ok (.istore 5, 2) := by decide +kernel
theorem d_Ps_value_67 : decode b_Ps_value 67 = .ok (.iload 5, 2) := by decide +kernel
theorem d_Ps_value_69 : decode b_Ps_value 69 = .ok (.invokestatic 101, 3) := by decide +kernel
theorem d_Ps_value_72 : decode b_Ps_value 72 = .ok (.bipush 12, 2) := by decide +kernel
theorem d_Ps_value_74 : decode b_Ps_value 74 = .ok (.if_icmp .le 13, 3) := by decide +kernel
theorem d_Ps_value_77 : decode b_Ps_value 77 = .ok (.new 126, 3) := by decide +kernel
theorem d_Ps_value_80 : decode b_Ps_value 80 = .ok (.dup, 1) := by decide +kernel
theorem d_Ps_value_81 : decode b_Ps_value 81 = .ok (.ldc 128, 2) := by decide +kernel
theorem d_Ps_value_83 : decode b_Ps_value 83 = .ok (.invokespecial 130, 3) := by decide +kernel
theorem d_Ps_value_86 : decode b_Ps_value 86 = .ok (.athrow, 1) := by decide +kernel
theorem d_Ps_value_87 : decode b_Ps_value 87 = .ok (.aload_n 0, 1) := by decide +kernel
theorem d_Ps_value_88 : decode b_Ps_value 88 = .ok (.getfield 64, 3) := by decide +kernel
theorem d_Ps_value_91 : decode b_Ps_value 91 = .ok (.ifCond .eq 5, 3) := by decide +kernel
theorem d_Ps_value_94 : decode b_Ps_value 94 = .ok (.lconst 0, 1) := by decide +kernel
theorem d_Ps_value_95 : decode b_Ps_value 95 = .ok (.lreturn, 1) := by decide +kernel
theorem d_Ps_value_96 : decode b_Ps_value 96 = .ok (.aload_n 0, 1) := by decide +kernel
theorem d_Ps_value_97 : decode b_Ps_value 97 = .ok (.iload 5, 2) := by decide +kernel
theorem d_Ps_value_99 : decode b_Ps_value 99 = .ok (.aload_n 0, 1) := by decide +kernel
theorem d_Ps_value_100 : decode b_Ps_value 100 = .ok (.getfield 58, 3) := by decide +kernel
theorem d_Ps_value_103 : decode b_Ps_value 103 = .ok (.iload_n 1, 1) := by decide +kernel
theorem d_Ps_value_104 : decode b_Ps_value 104 = .ok (.iand, 1) := by decide +kernel
theorem d_Ps_value_105 : decode b_Ps_value 105 = .ok (.iload_n 2, 1) := by decide +kernel
theorem d_Ps_value_106 : decode b_Ps_value 106 = .ok (.invokevirtual 131, 3) := by decide +kernel
theorem d_Ps_value_109 : decode b_Ps_value 109 = .ok (.aload_n 0, 1) := by decide +kernel
theorem d_Ps_value_110 : decode b_Ps_value 110 = .ok (.getfield 37, 3) := by decide +kernel
theorem d_Ps_value_113 : decode b_Ps_value 113 = .ok (.iload_n 3, 1) := by decide +kernel
theorem d_Ps_value_114 : decode b_Ps_value 114 = .ok (.invokevirtual 134, 3) := by decide +kernel
theorem d_Ps_value_117 : decode b_Ps_value 117 = .ok (.lreturn, 1) := by decide +kernel
theorem d_Ps_total_0 : decode b_Ps_total 0 = .ok (.iload_n 1, 1) := by decide +kernel
theorem d_Ps_total_1 : decode b_Ps_total 1 = .ok (.tableswitch 100 0 6 #[43, 48, 53, 58, 66, 74, 87], 43) := by decide +kernel
theorem d_Ps_total_44 : decode b_Ps_total 44 = .ok (.aload_n 0, 1) := by decide +kernel
theorem d_Ps_total_45 : decode b_Ps_total 45 = .ok (.getfield 137, 3) := by decide +kernel
theorem d_Ps_total_48 : decode b_Ps_total 48 = .ok (.ireturn, 1) := by decide +kernel
theorem d_Ps_total_49 : decode b_Ps_total 49 = .ok (.aload_n 0, 1) := by decide +kernel
theorem d_Ps_total_50 : decode b_Ps_total 50 = .ok (.getfield 61, 3) := by decide +kernel
theorem d_Ps_total_53 : decode b_Ps_total 53 = .ok (.ireturn, 1) := by decide +kernel
theorem d_Ps_total_54 : decode b_Ps_total 54 = .ok (.aload_n 0, 1) := by decide +kernel
theorem d_Ps_total_55 : decode b_Ps_total 55 = .ok (.getfield 54, 3) := by decide +kernel
theorem d_Ps_total_58 : decode b_Ps_total 58 = .ok (.ireturn, 1) := by decide +kernel
theorem d_Ps_total_59 : decode b_Ps_total 59 = .ok (.aload_n 0, 1) := by decide +kernel
theorem d_Ps_total_60 : decode b_Ps_total 60 = .ok (.getfield 16, 3) := by decide +kernel
theorem d_Ps_total_63 : decode b_Ps_total 63 = .ok (.getfield 140, 3) := by decide +kernel
theorem d_Ps_total_66 : decode b_Ps_total 66 = .ok (.ireturn, 1) := by decide +kernel
theorem d_Ps_total_67 : decode b_Ps_total 67 = .ok (.aload_n 0, 1) := by decide +kernel
theorem d_Ps_total_68 : decode b_Ps_total 68 = .ok (.getfield 23, 3) := by decide +kernel
theorem d_Ps_total_71 : decode b_Ps_total 71 = .ok (.getfield 143, 3) := by decide +kernel
theorem d_Ps_total_74 : decode b_Ps_total 74 = .ok (.ireturn, 1) := by decide +kernel
theorem d_Ps_total_75 : decode b_Ps_total 75 = .ok (.aload_n 0, 1) := by decide +kernel
theorem d_Ps_total_76 : decode b_Ps_total 76 = .ok (.getfield 64, 3) := by decide +kernel
theorem d_Ps_total_79 : decode b_Ps_total 79 = .ok (.ifCond .eq 7, 3) := by decide +kernel
theorem d_Ps_total_82 : decode b_Ps_total 82 = .ok (.iconst 1, 1) := by decide +kernel
theorem d_Ps_total_83 : decode b_Ps_total 83 = .ok (.goto 4, 3) := by decide +kernel
theorem d_Ps_total_86 : decode b_Ps_total 86 = .ok (.iconst 0, 1) := by decide +kernel
theorem d_Ps_total_87 : decode b_Ps_total 87 = .ok (.ireturn, 1) := by decide +kernel
theorem d_Ps_total_88 : decode b_Ps_total 88 = .ok (.aload_n 0, 1) := by decide +kernel
theorem d_Ps_total_89 : decode b_Ps_total 89 = .ok (.getfield 113, 3) := by decide +kernel
theorem d_Ps_total_92 : decode b_Ps_total 92 = .ok (.ifCond .eq 7, 3) := by decide +kernel
theorem d_Ps_total_95 : decode b_Ps_total 95 = .ok (.iconst 1, 1) := by decide +kernel
theorem d_Ps_total_96 : decode b_Ps_total 96 = .ok (.goto 4, 3) := by decide +kernel
theorem d_Ps_total_99 : decode b_Ps_total 99 = .ok (.iconst 0, 1) := by decide +kernel
theorem d_Ps_total_100 : decode b_Ps_total 100 = .ok (.ireturn, 1) := by decide +kernel
theorem d_Ps_total_101 : decode b_Ps_total 101 = .ok (.iconst (-1), 1) := by decide +kernel
theorem d_Ps_total_102 : decode b_Ps_total 102 = .ok (.ireturn, 1) := by decide +kernel
theorem d_Ps_halves_0 : decode b_Ps_halves 0 = .ok (.aload_n 0, 1) := by decide +kernel
theorem d_Ps_halves_1 : decode b_Ps_halves 1 = .ok (.getfield 146, 3) := by decide +kernel
theorem d_Ps_halves_4 : decode b_Ps_halves 4 = .ok (.ireturn, 1) := by decide +kernel
theorem d_Ps_isWireCount_0 : decode b_Ps_isWireCount 0 = .ok (.iload_n 0, 1) := by decide +kernel
theorem d_Ps_isWireCount_1 : decode b_Ps_isWireCount 1 = .ok (.iconst 1, 1) := by decide +kernel
theorem d_Ps_isWireCount_2 : decode b_Ps_isWireCount 2 = .ok (.if_icmp .lt 13, 3) := by decide +kernel
theorem d_Ps_isWireCount_5 : decode b_Ps_isWireCount 5 = .ok (.iload_n 0, 1) := by decide +kernel
theorem d_Ps_isWireCount_6 : decode b_Ps_isWireCount 6 = .ok (.bipush 6, 2) := by decide +kernel
theorem d_Ps_isWireCount_8 : decode b_Ps_isWireCount 8 = .ok (.if_icmp .gt 7, 3) := by decide +kernel
theorem d_Ps_isWireCount_11 : decode b_Ps_isWireCount 11 = .ok (.iconst 1, 1) := by decide +kernel
theorem d_Ps_isWireCount_12 : decode b_Ps_isWireCount 12 = .ok (.goto 4, 3) := by decide +kernel
theorem d_Ps_isWireCount_15 : decode b_Ps_isWireCount 15 = .ok (.iconst 0, 1) := by decide +kernel
theorem d_Ps_isWireCount_16 : decode b_Ps_isWireCount 16 = .ok (.ireturn, 1) := by decide +kernel
theorem d_Ps_isWire_0 : decode b_Ps_isWire 0 = .ok (.iload_n 1, 1) := by decide +kernel
theorem d_Ps_isWire_1 : decode b_Ps_isWire 1 = .ok (.ifCond .lt 21, 3) := by decide +kernel
theorem d_Ps_isWire_4 : decode b_Ps_isWire 4 = .ok (.iload_n 1, 1) := by decide +kernel
theorem d_Ps_isWire_5 : decode b_Ps_isWire 5 = .ok (.aload_n 0, 1) := by decide +kernel
theorem d_Ps_isWire_6 : decode b_Ps_isWire 6 = .ok (.getfield 137, 3) := by decide +kernel
theorem d_Ps_isWire_9 : decode b_Ps_isWire 9 = .ok (.if_icmp .ge 13, 3) := by decide +kernel
theorem d_Ps_isWire_12 : decode b_Ps_isWire 12 = .ok (.iload_n 1, 1) := by decide +kernel
theorem d_Ps_isWire_13 : decode b_Ps_isWire 13 = .ok (.bipush 6, 2) := by decide +kernel
theorem d_Ps_isWire_15 : decode b_Ps_isWire 15 = .ok (.if_icmp .ge 7, 3) := by decide +kernel
theorem d_Ps_isWire_18 : decode b_Ps_isWire 18 = .ok (.iconst 1, 1) := by decide +kernel
theorem d_Ps_isWire_19 : decode b_Ps_isWire 19 = .ok (.goto 4, 3) := by decide +kernel
theorem d_Ps_isWire_22 : decode b_Ps_isWire 22 = .ok (.iconst 0, 1) := by decide +kernel
theorem d_Ps_isWire_23 : decode b_Ps_isWire 23 = .ok (.ireturn, 1) := by decide +kernel
theorem d_Ps_isChoice_0 : decode b_Ps_isChoice 0 = .ok (.iload_n 1, 1) := by decide +kernel
theorem d_Ps_isChoice_1 : decode b_Ps_isChoice 1 = .ok (.ifCond .lt 17, 3) := by decide +kernel
theorem d_Ps_isChoice_4 : decode b_Ps_isChoice 4 = .ok (.iload_n 1, 1) := by decide +kernel
theorem d_Ps_isChoice_5 : decode b_Ps_isChoice 5 = .ok (.iconst 1, 1) := by decide +kernel
theorem d_Ps_isChoice_6 : decode b_Ps_isChoice 6 = .ok (.aload_n 0, 1) := by decide +kernel
theorem d_Ps_isChoice_7 : decode b_Ps_isChoice 7 = .ok (.getfield 137, 3) := by decide +kernel
theorem d_Ps_isChoice_10 : decode b_Ps_isChoice 10 = .ok (.ishl, 1) := by decide +kernel
theorem d_Ps_isChoice_11 : decode b_Ps_isChoice 11 = .ok (.if_icmp .ge 7, 3) := by decide +kernel
theorem d_Ps_isChoice_14 : decode b_Ps_isChoice 14 = .ok (.iconst 1, 1) := by decide +kernel
theorem d_Ps_isChoice_15 : decode b_Ps_isChoice 15 = .ok (.goto 4, 3) := by decide +kernel
theorem d_Ps_isChoice_18 : decode b_Ps_isChoice 18 = .ok (.iconst 0, 1) := by decide +kernel
theorem d_Ps_isChoice_19 : decode b_Ps_isChoice 19 = .ok (.ireturn, 1) := by decide +kernel
theorem d_Ps_startAnew_0 : decode b_Ps_startAnew 0 = .ok (.aload_n 0, 1) := by decide +kernel
theorem d_Ps_startAnew_1 : decode b_Ps_startAnew 1 = .ok (.getfield 9, 3) := by decide +kernel
theorem d_Ps_startAnew_4 : decode b_Ps_startAnew 4 = .ok (.iconst 0, 1) := by decide +kernel
theorem d_Ps_startAnew_5 : decode b_Ps_startAnew 5 = .ok (.invokestatic 149, 3) := by decide +kernel
theorem d_Ps_startAnew_8 : decode b_Ps_startAnew 8 = .ok (.aload_n 0, 1) := by decide +kernel
theorem d_Ps_startAnew_9 : decode b_Ps_startAnew 9 = .ok (.getfield 16, 3) := by decide +kernel
theorem d_Ps_startAnew_12 : decode b_Ps_startAnew 12 = .ok (.invokevirtual 155, 3) := by decide +kernel
theorem d_Ps_startAnew_15 : decode b_Ps_startAnew 15 = .ok (.aload_n 0, 1) := by decide +kernel
theorem d_Ps_startAnew_16 : decode b_Ps_startAnew 16 = .ok (.getfield 23, 3) := by decide +kernel
theorem d_Ps_startAnew_19 : decode b_Ps_startAnew 19 = .ok (.iconst 0, 1) := by decide +kernel
theorem d_Ps_startAnew_20 : decode b_Ps_startAnew 20 = .ok (.putfield 143, 3) := by decide +kernel
theorem d_Ps_startAnew_23 : decode b_Ps_startAnew 23 = .ok (.aload_n 0, 1) := by decide +kernel
theorem d_Ps_startAnew_24 : decode b_Ps_startAnew 24 = .ok (.iload_n 1, 1) := by decide +kernel
theorem d_Ps_startAnew_25 : decode b_Ps_startAnew 25 = .ok (.putfield 137, 3) := by decide +kernel
theorem d_Ps_startAnew_28 : decode b_Ps_startAnew 28 = .ok (.aload_n 0, 1) := by decide +kernel
theorem d_Ps_startAnew_29 : decode b_Ps_startAnew 29 = .ok (.iconst 0, 1) := by decide +kernel
theorem d_Ps_startAnew_30 : decode b_Ps_startAnew 30 = .ok (.putfield 54, 3) := by decide +kernel
theorem d_Ps_startAnew_33 : decode b_Ps_startAnew 33 = .ok (.aload_n 0, 1) := by decide +kernel
theorem d_Ps_startAnew_34 : decode b_Ps_startAnew 34 = .ok (.iconst 0, 1) := by decide +kernel
theorem d_Ps_startAnew_35 : decode b_Ps_startAnew 35 = .ok (.putfield 61, 3) := by decide +kernel
theorem d_Ps_startAnew_38 : decode b_Ps_startAnew 38 = .ok (.aload_n 0, 1) := by decide +kernel
theorem d_Ps_startAnew_39 : decode b_Ps_startAnew 39 = .ok (.iconst 0, 1) := by decide +kernel
theorem d_Ps_startAnew_40 : decode b_Ps_startAnew 40 = .ok (.putfield 58, 3) := by decide +kernel
theorem d_Ps_startAnew_43 : decode b_Ps_startAnew 43 = .ok (.aload_n 0, 1) := by decide +kernel
theorem d_Ps_startAnew_44 : decode b_Ps_startAnew 44 = .ok (.iconst 0, 1) := by decide +kernel
theorem d_Ps_startAnew_45 : decode b_Ps_startAnew 45 = .ok (.putfield 146, 3) := by decide +kernel
theorem d_Ps_startAnew_48 : decode b_Ps_startAnew 48 = .ok (.aload_n 0, 1) := by decide +kernel
theorem d_Ps_startAnew_49 : decode b_Ps_startAnew 49 = .ok (.iload_n 2, 1) := by decide +kernel
theorem d_Ps_startAnew_50 : decode b_Ps_startAnew 50 = .ok (.putfield 113, 3) := by decide +kernel
theorem d_Ps_startAnew_53 : decode b_Ps_startAnew 53 = .ok (.aload_n 0, 1) := by decide +kernel
theorem d_Ps_startAnew_54 : decode b_Ps_startAnew 54 = .ok (.iconst 0, 1) := by decide +kernel
theorem d_Ps_startAnew_55 : decode b_Ps_startAnew 55 = .ok (.putfield 64, 3) := by decide +kernel
theorem d_Ps_startAnew_58 : decode b_Ps_startAnew 58 = .ok (.return_, 1) := by decide +kernel
theorem d_Ps_fits_0 : decode b_Ps_fits 0 = .ok (.iload_n 1, 1) := by decide +kernel
theorem d_Ps_fits_1 : decode b_Ps_fits 1 = .ok (.ifCond .lt 17, 3) := by decide +kernel
theorem d_Ps_fits_4 : decode b_Ps_fits 4 = .ok (.iload_n 1, 1) := by decide +kernel
theorem d_Ps_fits_5 : decode b_Ps_fits 5 = .ok (.bipush 12, 2) := by decide +kernel
theorem d_Ps_fits_7 : decode b_Ps_fits 7 = .ok (.if_icmp .gt 11, 3) := by decide +kernel
theorem d_Ps_fits_10 : decode b_Ps_fits 10 = .ok (.aload_n 0, 1) := by decide +kernel
theorem d_Ps_fits_11 : decode b_Ps_fits 11 = .ok (.iload_n 2, 1) := by decide +kernel
theorem d_Ps_fits_12 : decode b_Ps_fits 12 = .ok (.invokevirtual 109, 3) := by decide +kernel
theorem d_Ps_fits_15 : decode b_Ps_fits 15 = .ok (.ifCond .ne 5, 3) := by decide +kernel
theorem d_Ps_fits_18 : decode b_Ps_fits 18 = .ok (.iconst 0, 1) := by decide +kernel
theorem d_Ps_fits_19 : decode b_Ps_fits 19 = .ok (.ireturn, 1) := by decide +kernel
theorem d_Ps_fits_20 : decode b_Ps_fits 20 = .ok (.iload_n 1, 1) := by decide +kernel
theorem d_Ps_fits_21 : decode b_Ps_fits 21 = .ok (.bipush 10, 2) := by decide +kernel
theorem d_Ps_fits_23 : decode b_Ps_fits 23 = .ok (.if_icmp .lt 18, 3) := by decide +kernel
theorem d_Ps_fits_26 : decode b_Ps_fits 26 = .ok (.aload_n 0, 1) := by decide +kernel
theorem d_Ps_fits_27 : decode b_Ps_fits 27 = .ok (.getfield 54, 3) := by decide +kernel
theorem d_Ps_fits_30 : decode b_Ps_fits 30 = .ok (.bipush 24, 2) := by decide +kernel
theorem d_Ps_fits_32 : decode b_Ps_fits 32 = .ok (.if_icmp .ge 7, 3) := by decide +kernel
theorem d_Ps_fits_35 : decode b_Ps_fits 35 = .ok (.iconst 1, 1) := by decide +kernel
theorem d_Ps_fits_36 : decode b_Ps_fits 36 = .ok (.goto 4, 3) := by decide +kernel
theorem d_Ps_fits_39 : decode b_Ps_fits 39 = .ok (.iconst 0, 1) := by decide +kernel
theorem d_Ps_fits_40 : decode b_Ps_fits 40 = .ok (.ireturn, 1) := by decide +kernel
theorem d_Ps_fits_41 : decode b_Ps_fits 41 = .ok (.iload_n 1, 1) := by decide +kernel
theorem d_Ps_fits_42 : decode b_Ps_fits 42 = .ok (.bipush 9, 2) := by decide +kernel
theorem d_Ps_fits_44 : decode b_Ps_fits 44 = .ok (.if_icmp .ne 26, 3) := by decide +kernel
theorem d_Ps_fits_47 : decode b_Ps_fits 47 = .ok (.aload_n 0, 1) := by decide +kernel
theorem d_Ps_fits_48 : decode b_Ps_fits 48 = .ok (.iload 4, 2) := by decide +kernel
theorem d_Ps_fits_50 : decode b_Ps_fits 50 = .ok (.invokevirtual 109, 3) := by decide +kernel
theorem d_Ps_fits_53 : decode b_Ps_fits 53 = .ok (.ifCond .eq 15, 3) := by decide +kernel
theorem d_Ps_fits_56 : decode b_Ps_fits 56 = .ok (.iload 4, 2) := by decide +kernel
theorem d_Ps_fits_58 : decode b_Ps_fits 58 = .ok (.iload_n 2, 1) := by decide +kernel
theorem d_Ps_fits_59 : decode b_Ps_fits 59 = .ok (.if_icmp .eq 9, 3) := by decide +kernel
theorem d_Ps_fits_62 : decode b_Ps_fits 62 = .ok (.iload 4, 2) := by decide +kernel
theorem d_Ps_fits_64 : decode b_Ps_fits 64 = .ok (.iload_n 3, 1) := by decide +kernel
theorem d_Ps_fits_65 : decode b_Ps_fits 65 = .ok (.if_icmp .ne 5, 3) := by decide +kernel
theorem d_Ps_fits_68 : decode b_Ps_fits 68 = .ok (.iconst 0, 1) := by decide +kernel
theorem d_Ps_fits_69 : decode b_Ps_fits 69 = .ok (.ireturn, 1) := by decide +kernel
theorem d_Ps_fits_70 : decode b_Ps_fits 70 = .ok (.iload_n 1, 1) := by decide +kernel
theorem d_Ps_fits_71 : decode b_Ps_fits 71 = .ok (.ifCond .eq 14, 3) := by decide +kernel
theorem d_Ps_fits_74 : decode b_Ps_fits 74 = .ok (.iload_n 1, 1) := by decide +kernel
theorem d_Ps_fits_75 : decode b_Ps_fits 75 = .ok (.iconst 3, 1) := by decide +kernel
theorem d_Ps_fits_76 : decode b_Ps_fits 76 = .ok (.if_icmp .lt 13, 3) := by decide +kernel
theorem d_Ps_fits_79 : decode b_Ps_fits 79 = .ok (.iload_n 1, 1) := by decide +kernel
theorem d_Ps_fits_80 : decode b_Ps_fits 80 = .ok (.bipush 7, 2) := by decide +kernel
theorem d_Ps_fits_82 : decode b_Ps_fits 82 = .ok (.if_icmp .gt 7, 3) := by decide +kernel
theorem d_Ps_fits_85 : decode b_Ps_fits 85 = .ok (.iconst 1, 1) := by decide +kernel
theorem d_Ps_fits_86 : decode b_Ps_fits 86 = .ok (.goto 4, 3) := by decide +kernel
theorem d_Ps_fits_89 : decode b_Ps_fits 89 = .ok (.iconst 0, 1) := by decide +kernel
theorem d_Ps_fits_90 : decode b_Ps_fits 90 = .ok (.istore 5, 2) := by decide +kernel
theorem d_Ps_fits_92 : decode b_Ps_fits 92 = .ok (.iload 5, 2) := by decide +kernel
theorem d_Ps_fits_94 : decode b_Ps_fits 94 = .ok (.ifCond .ne 16, 3) := by decide +kernel
theorem d_Ps_fits_97 : decode b_Ps_fits 97 = .ok (.aload_n 0, 1) := by decide +kernel
theorem d_Ps_fits_98 : decode b_Ps_fits 98 = .ok (.iload_n 3, 1) := by decide +kernel
theorem d_Ps_fits_99 : decode b_Ps_fits 99 = .ok (.invokevirtual 109, 3) := by decide +kernel
theorem d_Ps_fits_102 : decode b_Ps_fits 102 = .ok (.ifCond .eq 12, 3) := by decide +kernel
theorem d_Ps_fits_105 : decode b_Ps_fits 105 = .ok (.iload_n 3, 1) := by decide +kernel
theorem d_Ps_fits_106 : decode b_Ps_fits 106 = .ok (.iload_n 2, 1) := by decide +kernel
theorem d_Ps_fits_107 : decode b_Ps_fits 107 = .ok (.if_icmp .eq 7, 3) := by decide +kernel
theorem d_Ps_fits_110 : decode b_Ps_fits 110 = .ok (.iconst 1, 1) := by decide +kernel
theorem d_Ps_fits_111 : decode b_Ps_fits 111 = .ok (.goto 4, 3) := by decide +kernel
theorem d_Ps_fits_114 : decode b_Ps_fits 114 = .ok (.iconst 0, 1) := by decide +kernel
theorem d_Ps_fits_115 : decode b_Ps_fits 115 = .ok (.ireturn, 1) := by decide +kernel
theorem d_Ps_bringBit_0 : decode b_Ps_bringBit 0 = .ok (.iconst 1, 1) := by decide +kernel
theorem d_Ps_bringBit_1 : decode b_Ps_bringBit 1 = .ok (.aload_n 0, 1) := by decide +kernel
theorem d_Ps_bringBit_2 : decode b_Ps_bringBit 2 = .ok (.getfield 54, 3) := by decide +kernel
theorem d_Ps_bringBit_5 : decode b_Ps_bringBit 5 = .ok (.ishl, 1) := by decide +kernel
theorem d_Ps_bringBit_6 : decode b_Ps_bringBit 6 = .ok (.istore_n 3, 1) := by decide +kernel
theorem d_Ps_bringBit_7 : decode b_Ps_bringBit 7 = .ok (.aload_n 0, 1) := by decide +kernel
theorem d_Ps_bringBit_8 : decode b_Ps_bringBit 8 = .ok (.dup, 1) := by decide +kernel
theorem d_Ps_bringBit_9 : decode b_Ps_bringBit 9 = .ok (.getfield 54, 3) := by decide +kernel
theorem d_Ps_bringBit_12 : decode b_Ps_bringBit 12 = .ok (.iconst 1, 1) := by decide +kernel
theorem d_Ps_bringBit_13 : decode b_Ps_bringBit 13 = .ok (.iadd, 1) := by decide +kernel
theorem d_Ps_bringBit_14 : decode b_Ps_bringBit 14 = .ok (.putfield 54, 3) := by decide +kernel
theorem d_Ps_bringBit_17 : decode b_Ps_bringBit 17 = .ok (.aload_n 0, 1) := by decide +kernel
theorem d_Ps_bringBit_18 : decode b_Ps_bringBit 18 = .ok (.dup, 1) := by decide +kernel
theorem d_Ps_bringBit_19 : decode b_Ps_bringBit 19 = .ok (.getfield 61, 3) := by decide +kernel
theorem d_Ps_bringBit_22 : decode b_Ps_bringBit 22 = .ok (.iload_n 3, 1) := by decide +kernel
theorem d_Ps_bringBit_23 : decode b_Ps_bringBit 23 = .ok (.ior, 1) := by decide +kernel
theorem d_Ps_bringBit_24 : decode b_Ps_bringBit 24 = .ok (.putfield 61, 3) := by decide +kernel
theorem d_Ps_bringBit_27 : decode b_Ps_bringBit 27 = .ok (.aload_n 0, 1) := by decide +kernel
theorem d_Ps_bringBit_28 : decode b_Ps_bringBit 28 = .ok (.getfield 16, 3) := by decide +kernel
theorem d_Ps_bringBit_31 : decode b_Ps_bringBit 31 = .ok (.iload_n 3, 1) := by decide +kernel
theorem d_Ps_bringBit_32 : decode b_Ps_bringBit 32 = .ok (.aload_n 0, 1) := by decide +kernel
theorem d_Ps_bringBit_33 : decode b_Ps_bringBit 33 = .ok (.getfield 9, 3) := by decide +kernel
theorem d_Ps_bringBit_36 : decode b_Ps_bringBit 36 = .ok (.iload_n 2, 1) := by decide +kernel
theorem d_Ps_bringBit_37 : decode b_Ps_bringBit 37 = .ok (.iaload, 1) := by decide +kernel
theorem d_Ps_bringBit_38 : decode b_Ps_bringBit 38 = .ok (.ldc 53, 2) := by decide +kernel
theorem d_Ps_bringBit_40 : decode b_Ps_bringBit 40 = .ok (.invokevirtual 79, 3) := by decide +kernel
theorem d_Ps_bringBit_43 : decode b_Ps_bringBit 43 = .ok (.iload_n 1, 1) := by decide +kernel
theorem d_Ps_bringBit_44 : decode b_Ps_bringBit 44 = .ok (.bipush 12, 2) := by decide +kernel
theorem d_Ps_bringBit_46 : decode b_Ps_bringBit 46 = .ok (.if_icmp .ne 12, 3) := by decide +kernel
theorem d_Ps_bringBit_49 : decode b_Ps_bringBit 49 = .ok (.aload_n 0, 1) := by decide +kernel
theorem d_Ps_bringBit_50 : decode b_Ps_bringBit 50 = .ok (.getfield 16, 3) := by decide +kernel
theorem d_Ps_bringBit_53 : decode b_Ps_bringBit 53 = .ok (.iload_n 3, 1) := by decide +kernel
theorem d_Ps_bringBit_54 : decode b_Ps_bringBit 54 = .ok (.iconst 4, 1) := by decide +kernel
theorem d_Ps_bringBit_55 : decode b_Ps_bringBit 55 = .ok (.invokevirtual 158, 3) := by decide +kernel
theorem d_Ps_bringBit_58 : decode b_Ps_bringBit 58 = .ok (.iload_n 1, 1) := by decide +kernel
theorem d_Ps_bringBit_59 : decode b_Ps_bringBit 59 = .ok (.bipush 10, 2) := by decide +kernel
theorem d_Ps_bringBit_61 : decode b_Ps_bringBit 61 = .ok (.if_icmp .ne 23, 3) := by decide +kernel
theorem d_Ps_bringBit_64 : decode b_Ps_bringBit 64 = .ok (.aload_n 0, 1) := by decide +kernel
theorem d_Ps_bringBit_65 : decode b_Ps_bringBit 65 = .ok (.getfield 9, 3) := by decide +kernel
theorem d_Ps_bringBit_68 : decode b_Ps_bringBit 68 = .ok (.iload_n 2, 1) := by decide +kernel
theorem d_Ps_bringBit_69 : decode b_Ps_bringBit 69 = .ok (.iload_n 3, 1) := by decide +kernel
theorem d_Ps_bringBit_70 : decode b_Ps_bringBit 70 = .ok (.iastore, 1) := by decide +kernel
theorem d_Ps_bringBit_71 : decode b_Ps_bringBit 71 = .ok (.aload_n 0, 1) := by decide +kernel
theorem d_Ps_bringBit_72 : decode b_Ps_bringBit 72 = .ok (.dup, 1) := by decide +kernel
theorem d_Ps_bringBit_73 : decode b_Ps_bringBit 73 = .ok (.getfield 146, 3) := by decide +kernel
theorem d_Ps_bringBit_76 : decode b_Ps_bringBit 76 = .ok (.iconst 1, 1) := by decide +kernel
theorem d_Ps_bringBit_77 : decode b_Ps_bringBit 77 = .ok (.iadd, 1) := by decide +kernel
theorem d_Ps_bringBit_78 : decode b_Ps_bringBit 78 = .ok (.putfield 146, 3) := by decide +kernel
theorem d_Ps_bringBit_81 : decode b_Ps_bringBit 81 = .ok (.goto 13, 3) := by decide +kernel
theorem d_Ps_bringBit_84 : decode b_Ps_bringBit 84 = .ok (.aload_n 0, 1) := by decide +kernel
theorem d_Ps_bringBit_85 : decode b_Ps_bringBit 85 = .ok (.dup, 1) := by decide +kernel
theorem d_Ps_bringBit_86 : decode b_Ps_bringBit 86 = .ok (.getfield 146, 3) := by decide +kernel
theorem d_Ps_bringBit_89 : decode b_Ps_bringBit 89 = .ok (.iconst 2, 1) := by decide +kernel
theorem d_Ps_bringBit_90 : decode b_Ps_bringBit 90 = .ok (.iadd, 1) := by decide +kernel
theorem d_Ps_bringBit_91 : decode b_Ps_bringBit 91 = .ok (.putfield 146, 3) := by decide +kernel
theorem d_Ps_bringBit_94 : decode b_Ps_bringBit 94 = .ok (.return_, 1) := by decide +kernel
theorem d_Ps_leastBitWithRule_0 : decode b_Ps_leastBitWithRule 0 = .ok (.aload_n 0, 1) := by decide +kernel
theorem d_Ps_leastBitWithRule_1 : decode b_Ps_leastBitWithRule 1 = .ok (.getfield 61, 3) := by decide +kernel
theorem d_Ps_leastBitWithRule_4 : decode b_Ps_leastBitWithRule 4 = .ok (.aload_n 0, 1) := by decide +kernel
theorem d_Ps_leastBitWithRule_5 : decode b_Ps_leastBitWithRule 5 = .ok (.getfield 58, 3) := by decide +kernel
theorem d_Ps_leastBitWithRule_8 : decode b_Ps_leastBitWithRule 8 = .ok (.iconst (-1), 1) := by decide +kernel
theorem d_Ps_leastBitWithRule_9 : decode b_Ps_leastBitWithRule 9 = .ok (.ixor, 1) := by decide +kernel
theorem d_Ps_leastBitWithRule_10 : decode b_Ps_leastBitWithRule 10 = .ok (.iand, 1) := by decide +kernel
theorem d_Ps_leastBitWithRule_11 : decode b_Ps_leastBitWithRule 11 = .ok (.istore_n 1, 1) := by decide +kernel
theorem d_Ps_leastBitWithRule_12 : decode b_Ps_leastBitWithRule 12 = .ok (.iconst 0, 1) := by decide +kernel
theorem d_Ps_leastBitWithRule_13 : decode b_Ps_leastBitWithRule 13 = .ok (.istore_n 2, 1) := by decide +kernel
theorem d_Ps_leastBitWithRule_14 : decode b_Ps_leastBitWithRule 14 = .ok (.iload_n 2, 1) := by decide +kernel
theorem d_Ps_leastBitWithRule_15 : decode b_Ps_leastBitWithRule 15 = .ok (.bipush 6, 2) := by decide +kernel
theorem d_Ps_leastBitWithRule_17 : decode b_Ps_leastBitWithRule 17 = .ok (.if_icmp .ge 20, 3) := by decide +kernel
theorem d_Ps_leastBitWithRule_20 : decode b_Ps_leastBitWithRule 20 = .ok (.iload_n 1, 1) := by decide +kernel
theorem d_Ps_leastBitWithRule_21 : decode b_Ps_leastBitWithRule 21 = .ok (.aload_n 0, 1) := by decide +kernel
theorem d_Ps_leastBitWithRule_22 : decode b_Ps_leastBitWithRule 22 = .ok (.getfield 9, 3) := by decide +kernel
theorem d_Ps_leastBitWithRule_25 : decode b_Ps_leastBitWithRule 25 = .ok (.iload_n 2, 1) := by decide +kernel
theorem d_Ps_leastBitWithRule_26 : decode b_Ps_leastBitWithRule 26 = .ok (.iaload, 1) := by decide +kernel
theorem d_Ps_leastBitWithRule_27 : decode b_Ps_leastBitWithRule 27 = .ok (.iconst (-1), 1) := by decide +kernel
theorem d_Ps_leastBitWithRule_28 : decode b_Ps_leastBitWithRule 28 = .ok (.ixor, 1) := by decide +kernel
theorem d_Ps_leastBitWithRule_29 : decode b_Ps_leastBitWithRule 29 = .ok (.iand, 1) := by decide +kernel
theorem d_Ps_leastBitWithRule_30 : decode b_Ps_leastBitWithRule 30 = .ok (.istore_n 1, 1) := by decide +kernel
theorem d_Ps_leastBitWithRule_31 : decode b_Ps_leastBitWithRule 31 = .ok (.iinc 2 1, 3) := by decide +kernel
theorem d_Ps_leastBitWithRule_34 : decode b_Ps_leastBitWithRule 34 = .ok (.goto (-20), 3) := by decide +kernel
theorem d_Ps_leastBitWithRule_37 : decode b_Ps_leastBitWithRule 37 = .ok (.iconst 0, 1) := by decide +kernel
theorem d_Ps_leastBitWithRule_38 : decode b_Ps_leastBitWithRule 38 = .ok (.istore_n 2, 1) := by decide +kernel
theorem d_Ps_leastBitWithRule_39 : decode b_Ps_leastBitWithRule 39 = .ok (.iload_n 2, 1) := by decide +kernel
theorem d_Ps_leastBitWithRule_40 : decode b_Ps_leastBitWithRule 40 = .ok (.bipush 24, 2) := by decide +kernel
theorem d_Ps_leastBitWithRule_42 : decode b_Ps_leastBitWithRule 42 = .ok (.if_icmp .ge 28, 3) := by decide +kernel
theorem d_Ps_leastBitWithRule_45 : decode b_Ps_leastBitWithRule 45 = .ok (.iload_n 1, 1) := by decide +kernel
theorem d_Ps_leastBitWithRule_46 : decode b_Ps_leastBitWithRule 46 = .ok (.iload_n 2, 1) := by decide +kernel
theorem d_Ps_leastBitWithRule_47 : decode b_Ps_leastBitWithRule 47 = .ok (.invokestatic 49, 3) := by decide +kernel
theorem d_Ps_leastBitWithRule_50 : decode b_Ps_leastBitWithRule 50 = .ok (.ifCond .eq 14, 3) := by decide +kernel
theorem d_Ps_leastBitWithRule_53 : decode b_Ps_leastBitWithRule 53 = .ok (.aload_n 0, 1) := by decide +kernel
theorem d_Ps_leastBitWithRule_54 : decode b_Ps_leastBitWithRule 54 = .ok (.iload_n 2, 1) := by decide +kernel
theorem d_Ps_leastBitWithRule_55 : decode b_Ps_leastBitWithRule 55 = .ok (.invokevirtual 90, 3) := by decide +kernel
theorem d_Ps_leastBitWithRule_58 : decode b_Ps_leastBitWithRule 58 = .ok (.iconst (-1), 1) := by decide +kernel
theorem d_Ps_leastBitWithRule_59 : decode b_Ps_leastBitWithRule 59 = .ok (.if_icmp .eq 5, 3) := by decide +kernel
theorem d_Ps_leastBitWithRule_62 : decode b_Ps_leastBitWithRule 62 = .ok (.iload_n 2, 1) := by decide +kernel
theorem d_Ps_leastBitWithRule_63 : decode b_Ps_leastBitWithRule 63 = .ok (.ireturn, 1) := by decide +kernel
theorem d_Ps_leastBitWithRule_64 : decode b_Ps_leastBitWithRule 64 = .ok (.iinc 2 1, 3) := by decide +kernel
theorem d_Ps_leastBitWithRule_67 : decode b_Ps_leastBitWithRule 67 = .ok (.goto (-28), 3) := by decide +kernel
theorem d_Ps_leastBitWithRule_70 : decode b_Ps_leastBitWithRule 70 = .ok (.iconst (-1), 1) := by decide +kernel
theorem d_Ps_leastBitWithRule_71 : decode b_Ps_leastBitWithRule 71 = .ok (.ireturn, 1) := by decide +kernel
theorem d_Ps_ruleFor_0 : decode b_Ps_ruleFor 0 = .ok (.aload_n 0, 1) := by decide +kernel
theorem d_Ps_ruleFor_1 : decode b_Ps_ruleFor 1 = .ok (.getfield 16, 3) := by decide +kernel
theorem d_Ps_ruleFor_4 : decode b_Ps_ruleFor 4 = .ok (.iconst 1, 1) := by decide +kernel
theorem d_Ps_ruleFor_5 : decode b_Ps_ruleFor 5 = .ok (.iload_n 1, 1) := by decide +kernel
theorem d_Ps_ruleFor_6 : decode b_Ps_ruleFor 6 = .ok (.ishl, 1) := by decide +kernel
theorem d_Ps_ruleFor_7 : decode b_Ps_ruleFor 7 = .ok (.invokevirtual 106, 3) := by decide +kernel
theorem d_Ps_ruleFor_10 : decode b_Ps_ruleFor 10 = .ok (.istore_n 2, 1) := by decide +kernel
theorem d_Ps_ruleFor_11 : decode b_Ps_ruleFor 11 = .ok (.iload_n 2, 1) := by decide +kernel
theorem d_Ps_ruleFor_12 : decode b_Ps_ruleFor 12 = .ok (.iconst 0, 1) := by decide +kernel
theorem d_Ps_ruleFor_13 : decode b_Ps_ruleFor 13 = .ok (.invokestatic 49, 3) := by decide +kernel
theorem d_Ps_ruleFor_16 : decode b_Ps_ruleFor 16 = .ok (.ifCond .eq 5, 3) := by decide +kernel
theorem d_Ps_ruleFor_19 : decode b_Ps_ruleFor 19 = .ok (.iconst (-1), 1) := by decide +kernel
theorem d_Ps_ruleFor_20 : decode b_Ps_ruleFor 20 = .ok (.ireturn, 1) := by decide +kernel
theorem d_Ps_ruleFor_21 : decode b_Ps_ruleFor 21 = .ok (.aload_n 0, 1) := by decide +kernel
theorem d_Ps_ruleFor_22 : decode b_Ps_ruleFor 22 = .ok (.getfield 16, 3) := by decide +kernel
theorem d_Ps_ruleFor_25 : decode b_Ps_ruleFor 25 = .ok (.iload_n 1, 1) := by decide +kernel
theorem d_Ps_ruleFor_26 : decode b_Ps_ruleFor 26 = .ok (.invokevirtual 161, 3) := by decide +kernel
theorem d_Ps_ruleFor_29 : decode b_Ps_ruleFor 29 = .ok (.istore_n 3, 1) := by decide +kernel
theorem d_Ps_ruleFor_30 : decode b_Ps_ruleFor 30 = .ok (.iload_n 3, 1) := by decide +kernel
theorem d_Ps_ruleFor_31 : decode b_Ps_ruleFor 31 = .ok (.iconst (-1), 1) := by decide +kernel
theorem d_Ps_ruleFor_32 : decode b_Ps_ruleFor 32 = .ok (.if_icmp .ne 5, 3) := by decide +kernel
theorem d_Ps_ruleFor_35 : decode b_Ps_ruleFor 35 = .ok (.iconst (-1), 1) := by decide +kernel
theorem d_Ps_ruleFor_36 : decode b_Ps_ruleFor 36 = .ok (.ireturn, 1) := by decide +kernel
theorem d_Ps_ruleFor_37 : decode b_Ps_ruleFor 37 = .ok (.iload_n 2, 1) := by decide +kernel
theorem d_Ps_ruleFor_38 : decode b_Ps_ruleFor 38 = .ok (.iconst 1, 1) := by decide +kernel
theorem d_Ps_ruleFor_39 : decode b_Ps_ruleFor 39 = .ok (.invokestatic 49, 3) := by decide +kernel
theorem d_Ps_ruleFor_42 : decode b_Ps_ruleFor 42 = .ok (.ifCond .eq 5, 3) := by decide +kernel
theorem d_Ps_ruleFor_45 : decode b_Ps_ruleFor 45 = .ok (.iconst 4, 1) := by decide +kernel
theorem d_Ps_ruleFor_46 : decode b_Ps_ruleFor 46 = .ok (.ireturn, 1) := by decide +kernel
theorem d_Ps_ruleFor_47 : decode b_Ps_ruleFor 47 = .ok (.iload_n 3, 1) := by decide +kernel
theorem d_Ps_ruleFor_48 : decode b_Ps_ruleFor 48 = .ok (.ifCond .ne 13, 3) := by decide +kernel
theorem d_Ps_ruleFor_51 : decode b_Ps_ruleFor 51 = .ok (.iload_n 2, 1) := by decide +kernel
theorem d_Ps_ruleFor_52 : decode b_Ps_ruleFor 52 = .ok (.ifCond .ne 7, 3) := by decide +kernel
theorem d_Ps_ruleFor_55 : decode b_Ps_ruleFor 55 = .ok (.iconst 1, 1) := by decide +kernel
theorem d_Ps_ruleFor_56 : decode b_Ps_ruleFor 56 = .ok (.goto 4, 3) := by decide +kernel
theorem d_Ps_ruleFor_59 : decode b_Ps_ruleFor 59 = .ok (.iconst 2, 1) := by decide +kernel
theorem d_Ps_ruleFor_60 : decode b_Ps_ruleFor 60 = .ok (.ireturn, 1) := by decide +kernel
theorem d_Ps_ruleFor_61 : decode b_Ps_ruleFor 61 = .ok (.iload_n 3, 1) := by decide +kernel
theorem d_Ps_ruleFor_62 : decode b_Ps_ruleFor 62 = .ok (.aload_n 0, 1) := by decide +kernel
theorem d_Ps_ruleFor_63 : decode b_Ps_ruleFor 63 = .ok (.getfield 58, 3) := by decide +kernel
theorem d_Ps_ruleFor_66 : decode b_Ps_ruleFor 66 = .ok (.iconst (-1), 1) := by decide +kernel
theorem d_Ps_ruleFor_67 : decode b_Ps_ruleFor 67 = .ok (.ixor, 1) := by decide +kernel
theorem d_Ps_ruleFor_68 : decode b_Ps_ruleFor 68 = .ok (.iand, 1) := by decide +kernel
theorem d_Ps_ruleFor_69 : decode b_Ps_ruleFor 69 = .ok (.ifCond .eq 7, 3) := by decide +kernel
theorem d_Ps_ruleFor_72 : decode b_Ps_ruleFor 72 = .ok (.iconst 3, 1) := by decide +kernel
theorem d_Ps_ruleFor_73 : decode b_Ps_ruleFor 73 = .ok (.goto 4, 3) := by decide +kernel
theorem d_Ps_ruleFor_76 : decode b_Ps_ruleFor 76 = .ok (.iconst (-1), 1) := by decide +kernel
theorem d_Ps_ruleFor_77 : decode b_Ps_ruleFor 77 = .ok (.ireturn, 1) := by decide +kernel
theorem d_Ps_doRule_0 : decode b_Ps_doRule 0 = .ok (.aload_n 0, 1) := by decide +kernel
theorem d_Ps_doRule_1 : decode b_Ps_doRule 1 = .ok (.getfield 16, 3) := by decide +kernel
theorem d_Ps_doRule_4 : decode b_Ps_doRule 4 = .ok (.iconst 1, 1) := by decide +kernel
theorem d_Ps_doRule_5 : decode b_Ps_doRule 5 = .ok (.iload_n 2, 1) := by decide +kernel
theorem d_Ps_doRule_6 : decode b_Ps_doRule 6 = .ok (.ishl, 1) := by decide +kernel
theorem d_Ps_doRule_7 : decode b_Ps_doRule 7 = .ok (.invokevirtual 106, 3) := by decide +kernel
theorem d_Ps_doRule_10 : decode b_Ps_doRule 10 = .ok (.istore_n 3, 1) := by decide +kernel
theorem d_Ps_doRule_11 : decode b_Ps_doRule 11 = .ok (.aload_n 0, 1) := by decide +kernel
theorem d_Ps_doRule_12 : decode b_Ps_doRule 12 = .ok (.getfield 16, 3) := by decide +kernel
theorem d_Ps_doRule_15 : decode b_Ps_doRule 15 = .ok (.iload_n 2, 1) := by decide +kernel
theorem d_Ps_doRule_16 : decode b_Ps_doRule 16 = .ok (.invokevirtual 161, 3) := by decide +kernel
theorem d_Ps_doRule_19 : decode b_Ps_doRule 19 = .ok (.istore 4, 2) := by decide +kernel
theorem d_Ps_doRule_21 : decode b_Ps_doRule 21 = .ok (.iload_n 1, 1) := by decide +kernel
theorem d_Ps_doRule_22 : decode b_Ps_doRule 22 = .ok (.iconst 3, 1) := by decide +kernel
theorem d_Ps_doRule_23 : decode b_Ps_doRule 23 = .ok (.if_icmp .ne 18, 3) := by decide +kernel
theorem d_Ps_doRule_26 : decode b_Ps_doRule 26 = .ok (.iload 4, 2) := by decide +kernel
theorem d_Ps_doRule_28 : decode b_Ps_doRule 28 = .ok (.aload_n 0, 1) := by decide +kernel
theorem d_Ps_doRule_29 : decode b_Ps_doRule 29 = .ok (.getfield 58, 3) := by decide +kernel
theorem d_Ps_doRule_32 : decode b_Ps_doRule 32 = .ok (.iconst (-1), 1) := by decide +kernel
theorem d_Ps_doRule_33 : decode b_Ps_doRule 33 = .ok (.ixor, 1) := by decide +kernel
theorem d_Ps_doRule_34 : decode b_Ps_doRule 34 = .ok (.iand, 1) := by decide +kernel
theorem d_Ps_doRule_35 : decode b_Ps_doRule 35 = .ok (.invokestatic 164, 3) := by decide +kernel
theorem d_Ps_doRule_38 : decode b_Ps_doRule 38 = .ok (.goto 4, 3) := by decide +kernel
theorem d_Ps_doRule_41 : decode b_Ps_doRule 41 = .ok (.iconst (-1), 1) := by decide +kernel
theorem d_Ps_doRule_42 : decode b_Ps_doRule 42 = .ok (.istore 5, 2) := by decide +kernel
theorem d_Ps_doRule_44 : decode b_Ps_doRule 44 = .ok (.aload_n 0, 1) := by decide +kernel
theorem d_Ps_doRule_45 : decode b_Ps_doRule 45 = .ok (.getfield 23, 3) := by decide +kernel
theorem d_Ps_doRule_48 : decode b_Ps_doRule 48 = .ok (.iload_n 1, 1) := by decide +kernel
theorem d_Ps_doRule_49 : decode b_Ps_doRule 49 = .ok (.iload_n 2, 1) := by decide +kernel
theorem d_Ps_doRule_50 : decode b_Ps_doRule 50 = .ok (.iload 5, 2) := by decide +kernel
theorem d_Ps_doRule_52 : decode b_Ps_doRule 52 = .ok (.invokevirtual 167, 3) := by decide +kernel
theorem d_Ps_doRule_55 : decode b_Ps_doRule 55 = .ok (.iload_n 1, 1) := by decide +kernel
theorem d_Ps_doRule_56 : decode b_Ps_doRule 56 = .ok (.iconst 2, 1) := by decide +kernel
theorem d_Ps_doRule_57 : decode b_Ps_doRule 57 = .ok (.if_icmp .ne 8, 3) := by decide +kernel
theorem d_Ps_doRule_60 : decode b_Ps_doRule 60 = .ok (.aload_n 0, 1) := by decide +kernel
theorem d_Ps_doRule_61 : decode b_Ps_doRule 61 = .ok (.invokevirtual 170, 3) := by decide +kernel
theorem d_Ps_doRule_64 : decode b_Ps_doRule 64 = .ok (.return_, 1) := by decide +kernel
theorem d_Ps_doRule_65 : decode b_Ps_doRule 65 = .ok (.aload_n 0, 1) := by decide +kernel
theorem d_Ps_doRule_66 : decode b_Ps_doRule 66 = .ok (.getfield 16, 3) := by decide +kernel
theorem d_Ps_doRule_69 : decode b_Ps_doRule 69 = .ok (.iload_n 2, 1) := by decide +kernel
theorem d_Ps_doRule_70 : decode b_Ps_doRule 70 = .ok (.iconst 0, 1) := by decide +kernel
theorem d_Ps_doRule_71 : decode b_Ps_doRule 71 = .ok (.invokevirtual 173, 3) := by decide +kernel
theorem d_Ps_doRule_74 : decode b_Ps_doRule 74 = .ok (.aload_n 0, 1) := by decide +kernel
theorem d_Ps_doRule_75 : decode b_Ps_doRule 75 = .ok (.dup, 1) := by decide +kernel
theorem d_Ps_doRule_76 : decode b_Ps_doRule 76 = .ok (.getfield 61, 3) := by decide +kernel
theorem d_Ps_doRule_79 : decode b_Ps_doRule 79 = .ok (.iconst 1, 1) := by decide +kernel
theorem d_Ps_doRule_80 : decode b_Ps_doRule 80 = .ok (.iload_n 2, 1) := by decide +kernel
theorem d_Ps_doRule_81 : decode b_Ps_doRule 81 = .ok (.ishl, 1) := by decide +kernel
theorem d_Ps_doRule_82 : decode b_Ps_doRule 82 = .ok (.iconst (-1), 1) := by decide +kernel
theorem d_Ps_doRule_83 : decode b_Ps_doRule 83 = .ok (.ixor, 1) := by decide +kernel
theorem d_Ps_doRule_84 : decode b_Ps_doRule 84 = .ok (.iand, 1) := by decide +kernel
theorem d_Ps_doRule_85 : decode b_Ps_doRule 85 = .ok (.putfield 61, 3) := by decide +kernel
theorem d_Ps_doRule_88 : decode b_Ps_doRule 88 = .ok (.aload_n 0, 1) := by decide +kernel
theorem d_Ps_doRule_89 : decode b_Ps_doRule 89 = .ok (.dup, 1) := by decide +kernel
theorem d_Ps_doRule_90 : decode b_Ps_doRule 90 = .ok (.getfield 146, 3) := by decide +kernel
theorem d_Ps_doRule_93 : decode b_Ps_doRule 93 = .ok (.iload_n 1, 1) := by decide +kernel
theorem d_Ps_doRule_94 : decode b_Ps_doRule 94 = .ok (.iconst 4, 1) := by decide +kernel
theorem d_Ps_doRule_95 : decode b_Ps_doRule 95 = .ok (.if_icmp .ne 7, 3) := by decide +kernel
theorem d_Ps_doRule_98 : decode b_Ps_doRule 98 = .ok (.iconst 1, 1) := by decide +kernel
theorem d_Ps_doRule_99 : decode b_Ps_doRule 99 = .ok (.goto 4, 3) := by decide +kernel
theorem d_Ps_doRule_102 : decode b_Ps_doRule 102 = .ok (.iconst 2, 1) := by decide +kernel
theorem d_Ps_doRule_103 : decode b_Ps_doRule 103 = .ok (.isub, 1) := by decide +kernel
theorem d_Ps_doRule_104 : decode b_Ps_doRule 104 = .ok (.putfield 146, 3) := by decide +kernel
theorem d_Ps_doRule_107 : decode b_Ps_doRule 107 = .ok (.iload_n 1, 1) := by decide +kernel
theorem d_Ps_doRule_108 : decode b_Ps_doRule 108 = .ok (.iconst 3, 1) := by decide +kernel
theorem d_Ps_doRule_109 : decode b_Ps_doRule 109 = .ok (.if_icmp .ne 63, 3) := by decide +kernel
theorem d_Ps_doRule_112 : decode b_Ps_doRule 112 = .ok (.iload 4, 2) := by decide +kernel
theorem d_Ps_doRule_114 : decode b_Ps_doRule 114 = .ok (.iconst 1, 1) := by decide +kernel
theorem d_Ps_doRule_115 : decode b_Ps_doRule 115 = .ok (.iload 5, 2) := by decide +kernel
theorem d_Ps_doRule_117 : decode b_Ps_doRule 117 = .ok (.ishl, 1) := by decide +kernel
theorem d_Ps_doRule_118 : decode b_Ps_doRule 118 = .ok (.iconst (-1), 1) := by decide +kernel
theorem d_Ps_doRule_119 : decode b_Ps_doRule 119 = .ok (.ixor, 1) := by decide +kernel
theorem d_Ps_doRule_120 : decode b_Ps_doRule 120 = .ok (.iand, 1) := by decide +kernel
theorem d_Ps_doRule_121 : decode b_Ps_doRule 121 = .ok (.iload_n 3, 1) := by decide +kernel
theorem d_Ps_doRule_122 : decode b_Ps_doRule 122 = .ok (.iconst 4, 1) := by decide +kernel
theorem d_Ps_doRule_123 : decode b_Ps_doRule 123 = .ok (.if_icmp .ne 8, 3) := by decide +kernel
theorem d_Ps_doRule_126 : decode b_Ps_doRule 126 = .ok (.ldc 53, 2) := by decide +kernel
theorem d_Ps_doRule_128 : decode b_Ps_doRule 128 = .ok (.goto 4, 3) := by decide +kernel
theorem d_Ps_doRule_131 : decode b_Ps_doRule 131 = .ok (.iconst 0, 1) := by decide +kernel
theorem d_Ps_doRule_132 : decode b_Ps_doRule 132 = .ok (.ior, 1) := by decide +kernel
theorem d_Ps_doRule_133 : decode b_Ps_doRule 133 = .ok (.istore 6, 2) := by decide +kernel
theorem d_Ps_doRule_135 : decode b_Ps_doRule 135 = .ok (.aload_n 0, 1) := by decide +kernel
theorem d_Ps_doRule_136 : decode b_Ps_doRule 136 = .ok (.getfield 16, 3) := by decide +kernel
theorem d_Ps_doRule_139 : decode b_Ps_doRule 139 = .ok (.iload 5, 2) := by decide +kernel
theorem d_Ps_doRule_141 : decode b_Ps_doRule 141 = .ok (.iload 6, 2) := by decide +kernel
theorem d_Ps_doRule_143 : decode b_Ps_doRule 143 = .ok (.invokevirtual 173, 3) := by decide +kernel
theorem d_Ps_doRule_146 : decode b_Ps_doRule 146 = .ok (.aload_n 0, 1) := by decide +kernel
theorem d_Ps_doRule_147 : decode b_Ps_doRule 147 = .ok (.iload 5, 2) := by decide +kernel
theorem d_Ps_doRule_149 : decode b_Ps_doRule 149 = .ok (.iload 6, 2) := by decide +kernel
theorem d_Ps_doRule_151 : decode b_Ps_doRule 151 = .ok (.invokevirtual 176, 3) := by decide +kernel
theorem d_Ps_doRule_154 : decode b_Ps_doRule 154 = .ok (.aload_n 0, 1) := by decide +kernel
theorem d_Ps_doRule_155 : decode b_Ps_doRule 155 = .ok (.dup, 1) := by decide +kernel
theorem d_Ps_doRule_156 : decode b_Ps_doRule 156 = .ok (.getfield 61, 3) := by decide +kernel
theorem d_Ps_doRule_159 : decode b_Ps_doRule 159 = .ok (.iconst 1, 1) := by decide +kernel
theorem d_Ps_doRule_160 : decode b_Ps_doRule 160 = .ok (.iload 5, 2) := by decide +kernel
theorem d_Ps_doRule_162 : decode b_Ps_doRule 162 = .ok (.ishl, 1) := by decide +kernel
theorem d_Ps_doRule_163 : decode b_Ps_doRule 163 = .ok (.iconst (-1), 1) := by decide +kernel
theorem d_Ps_doRule_164 : decode b_Ps_doRule 164 = .ok (.ixor, 1) := by decide +kernel
theorem d_Ps_doRule_165 : decode b_Ps_doRule 165 = .ok (.iand, 1) := by decide +kernel
theorem d_Ps_doRule_166 : decode b_Ps_doRule 166 = .ok (.putfield 61, 3) := by decide +kernel
theorem d_Ps_doRule_169 : decode b_Ps_doRule 169 = .ok (.goto 48, 3) := by decide +kernel
theorem d_Ps_doRule_172 : decode b_Ps_doRule 172 = .ok (.iload_n 1, 1) := by decide +kernel
theorem d_Ps_doRule_173 : decode b_Ps_doRule 173 = .ok (.iconst 4, 1) := by decide +kernel
theorem d_Ps_doRule_174 : decode b_Ps_doRule 174 = .ok (.if_icmp .ne 43, 3) := by decide +kernel
theorem d_Ps_doRule_177 : decode b_Ps_doRule 177 = .ok (.aload_n 0, 1) := by decide +kernel
theorem d_Ps_doRule_178 : decode b_Ps_doRule 178 = .ok (.getfield 16, 3) := by decide +kernel
theorem d_Ps_doRule_181 : decode b_Ps_doRule 181 = .ok (.iconst 0, 1) := by decide +kernel
theorem d_Ps_doRule_182 : decode b_Ps_doRule 182 = .ok (.iload_n 3, 1) := by decide +kernel
theorem d_Ps_doRule_183 : decode b_Ps_doRule 183 = .ok (.iconst 2, 1) := by decide +kernel
theorem d_Ps_doRule_184 : decode b_Ps_doRule 184 = .ok (.if_icmp .ne 7, 3) := by decide +kernel
theorem d_Ps_doRule_187 : decode b_Ps_doRule 187 = .ok (.iconst 1, 1) := by decide +kernel
theorem d_Ps_doRule_188 : decode b_Ps_doRule 188 = .ok (.goto 5, 3) := by decide +kernel
theorem d_Ps_doRule_191 : decode b_Ps_doRule 191 = .ok (.bipush 7, 2) := by decide +kernel
theorem d_Ps_doRule_193 : decode b_Ps_doRule 193 = .ok (.invokevirtual 158, 3) := by decide +kernel
theorem d_Ps_doRule_196 : decode b_Ps_doRule 196 = .ok (.aload_n 0, 1) := by decide +kernel
theorem d_Ps_doRule_197 : decode b_Ps_doRule 197 = .ok (.getfield 16, 3) := by decide +kernel
theorem d_Ps_doRule_200 : decode b_Ps_doRule 200 = .ok (.iload_n 3, 1) := by decide +kernel
theorem d_Ps_doRule_201 : decode b_Ps_doRule 201 = .ok (.iconst 2, 1) := by decide +kernel
theorem d_Ps_doRule_202 : decode b_Ps_doRule 202 = .ok (.if_icmp .ne 8, 3) := by decide +kernel
theorem d_Ps_doRule_205 : decode b_Ps_doRule 205 = .ok (.bipush 6, 2) := by decide +kernel
theorem d_Ps_doRule_207 : decode b_Ps_doRule 207 = .ok (.goto 4, 3) := by decide +kernel
theorem d_Ps_doRule_210 : decode b_Ps_doRule 210 = .ok (.iconst 2, 1) := by decide +kernel
theorem d_Ps_doRule_211 : decode b_Ps_doRule 211 = .ok (.iload 4, 2) := by decide +kernel
theorem d_Ps_doRule_213 : decode b_Ps_doRule 213 = .ok (.iconst 0, 1) := by decide +kernel
theorem d_Ps_doRule_214 : decode b_Ps_doRule 214 = .ok (.invokevirtual 75, 3) := by decide +kernel
theorem d_Ps_doRule_217 : decode b_Ps_doRule 217 = .ok (.return_, 1) := by decide +kernel
theorem d_Ps_greatestOf_0 : decode b_Ps_greatestOf 0 = .ok (.bipush 23, 2) := by decide +kernel
theorem d_Ps_greatestOf_2 : decode b_Ps_greatestOf 2 = .ok (.istore_n 1, 1) := by decide +kernel
theorem d_Ps_greatestOf_3 : decode b_Ps_greatestOf 3 = .ok (.iload_n 1, 1) := by decide +kernel
theorem d_Ps_greatestOf_4 : decode b_Ps_greatestOf 4 = .ok (.ifCond .lt 19, 3) := by decide +kernel
theorem d_Ps_greatestOf_7 : decode b_Ps_greatestOf 7 = .ok (.iload_n 0, 1) := by decide +kernel
theorem d_Ps_greatestOf_8 : decode b_Ps_greatestOf 8 = .ok (.iload_n 1, 1) := by decide +kernel
theorem d_Ps_greatestOf_9 : decode b_Ps_greatestOf 9 = .ok (.invokestatic 49, 3) := by decide +kernel
theorem d_Ps_greatestOf_12 : decode b_Ps_greatestOf 12 = .ok (.ifCond .eq 5, 3) := by decide +kernel
theorem d_Ps_greatestOf_15 : decode b_Ps_greatestOf 15 = .ok (.iload_n 1, 1) := by decide +kernel
theorem d_Ps_greatestOf_16 : decode b_Ps_greatestOf 16 = .ok (.ireturn, 1) := by decide +kernel
theorem d_Ps_greatestOf_17 : decode b_Ps_greatestOf 17 = .ok (.iinc 1 (-1), 3) := by decide +kernel
theorem d_Ps_greatestOf_20 : decode b_Ps_greatestOf 20 = .ok (.goto (-17), 3) := by decide +kernel
theorem d_Ps_greatestOf_23 : decode b_Ps_greatestOf 23 = .ok (.iconst (-1), 1) := by decide +kernel
theorem d_Ps_greatestOf_24 : decode b_Ps_greatestOf 24 = .ok (.ireturn, 1) := by decide +kernel
theorem d_Ps_becomeEmpty_0 : decode b_Ps_becomeEmpty 0 = .ok (.iconst 0, 1) := by decide +kernel
theorem d_Ps_becomeEmpty_1 : decode b_Ps_becomeEmpty 1 = .ok (.istore_n 1, 1) := by decide +kernel
theorem d_Ps_becomeEmpty_2 : decode b_Ps_becomeEmpty 2 = .ok (.iload_n 1, 1) := by decide +kernel
theorem d_Ps_becomeEmpty_3 : decode b_Ps_becomeEmpty 3 = .ok (.bipush 6, 2) := by decide +kernel
theorem d_Ps_becomeEmpty_5 : decode b_Ps_becomeEmpty 5 = .ok (.if_icmp .ge 25, 3) := by decide +kernel
theorem d_Ps_becomeEmpty_8 : decode b_Ps_becomeEmpty 8 = .ok (.aload_n 0, 1) := by decide +kernel
theorem d_Ps_becomeEmpty_9 : decode b_Ps_becomeEmpty 9 = .ok (.getfield 9, 3) := by decide +kernel
theorem d_Ps_becomeEmpty_12 : decode b_Ps_becomeEmpty 12 = .ok (.iload_n 1, 1) := by decide +kernel
theorem d_Ps_becomeEmpty_13 : decode b_Ps_becomeEmpty 13 = .ok (.dup2, 1) := by decide +kernel
theorem d_Ps_becomeEmpty_14 : decode b_Ps_becomeEmpty 14 = .ok (.iaload, 1) := by decide +kernel
theorem d_Ps_becomeEmpty_15 : decode b_Ps_becomeEmpty 15 = .ok (.aload_n 0, 1) := by decide +kernel
theorem d_Ps_becomeEmpty_16 : decode b_Ps_becomeEmpty 16 = .ok (.getfield 58, 3) := by decide +kernel
theorem d_Ps_becomeEmpty_19 : decode b_Ps_becomeEmpty 19 = .ok (.ldc 53, 2) := by decide +kernel
theorem d_Ps_becomeEmpty_21 : decode b_Ps_becomeEmpty 21 = .ok (.ior, 1) := by decide +kernel
theorem d_Ps_becomeEmpty_22 : decode b_Ps_becomeEmpty 22 = .ok (.iand, 1) := by decide +kernel
theorem d_Ps_becomeEmpty_23 : decode b_Ps_becomeEmpty 23 = .ok (.iastore, 1) := by decide +kernel
theorem d_Ps_becomeEmpty_24 : decode b_Ps_becomeEmpty 24 = .ok (.iinc 1 1, 3) := by decide +kernel
theorem d_Ps_becomeEmpty_27 : decode b_Ps_becomeEmpty 27 = .ok (.goto (-25), 3) := by decide +kernel
theorem d_Ps_becomeEmpty_30 : decode b_Ps_becomeEmpty 30 = .ok (.aload_n 0, 1) := by decide +kernel
theorem d_Ps_becomeEmpty_31 : decode b_Ps_becomeEmpty 31 = .ok (.getfield 16, 3) := by decide +kernel
theorem d_Ps_becomeEmpty_34 : decode b_Ps_becomeEmpty 34 = .ok (.invokevirtual 155, 3) := by decide +kernel
theorem d_Ps_becomeEmpty_37 : decode b_Ps_becomeEmpty 37 = .ok (.aload_n 0, 1) := by decide +kernel
theorem d_Ps_becomeEmpty_38 : decode b_Ps_becomeEmpty 38 = .ok (.aload_n 0, 1) := by decide +kernel
theorem d_Ps_becomeEmpty_39 : decode b_Ps_becomeEmpty 39 = .ok (.getfield 58, 3) := by decide +kernel
theorem d_Ps_becomeEmpty_42 : decode b_Ps_becomeEmpty 42 = .ok (.putfield 61, 3) := by decide +kernel
theorem d_Ps_becomeEmpty_45 : decode b_Ps_becomeEmpty 45 = .ok (.aload_n 0, 1) := by decide +kernel
theorem d_Ps_becomeEmpty_46 : decode b_Ps_becomeEmpty 46 = .ok (.iconst 0, 1) := by decide +kernel
theorem d_Ps_becomeEmpty_47 : decode b_Ps_becomeEmpty 47 = .ok (.putfield 146, 3) := by decide +kernel
theorem d_Ps_becomeEmpty_50 : decode b_Ps_becomeEmpty 50 = .ok (.aload_n 0, 1) := by decide +kernel
theorem d_Ps_becomeEmpty_51 : decode b_Ps_becomeEmpty 51 = .ok (.iconst 1, 1) := by decide +kernel
theorem d_Ps_becomeEmpty_52 : decode b_Ps_becomeEmpty 52 = .ok (.putfield 64, 3) := by decide +kernel
theorem d_Ps_becomeEmpty_55 : decode b_Ps_becomeEmpty 55 = .ok (.return_, 1) := by decide +kernel
theorem d_Ps_replaceInValues_0 : decode b_Ps_replaceInValues 0 = .ok (.iconst 0, 1) := by decide +kernel
theorem d_Ps_replaceInValues_1 : decode b_Ps_replaceInValues 1 = .ok (.istore_n 3, 1) := by decide +kernel
theorem d_Ps_replaceInValues_2 : decode b_Ps_replaceInValues 2 = .ok (.iload_n 3, 1) := by decide +kernel
theorem d_Ps_replaceInValues_3 : decode b_Ps_replaceInValues 3 = .ok (.bipush 6, 2) := by decide +kernel
theorem d_Ps_replaceInValues_5 : decode b_Ps_replaceInValues 5 = .ok (.if_icmp .ge 36, 3) := by decide +kernel
theorem d_Ps_replaceInValues_8 : decode b_Ps_replaceInValues 8 = .ok (.aload_n 0, 1) := by decide +kernel
theorem d_Ps_replaceInValues_9 : decode b_Ps_replaceInValues 9 = .ok (.getfield 9, 3) := by decide +kernel
theorem d_Ps_replaceInValues_12 : decode b_Ps_replaceInValues 12 = .ok (.iload_n 3, 1) := by decide +kernel
theorem d_Ps_replaceInValues_13 : decode b_Ps_replaceInValues 13 = .ok (.iaload, 1) := by decide +kernel
theorem d_Ps_replaceInValues_14 : decode b_Ps_replaceInValues 14 = .ok (.iload_n 1, 1) := by decide +kernel
theorem d_Ps_replaceInValues_15 : decode b_Ps_replaceInValues 15 = .ok (.invokestatic 49, 3) := by decide +kernel
theorem d_Ps_replaceInValues_18 : decode b_Ps_replaceInValues 18 = .ok (.ifCond .eq 17, 3) := by decide +kernel
theorem d_Ps_replaceInValues_21 : decode b_Ps_replaceInValues 21 = .ok (.aload_n 0, 1) := by decide +kernel
theorem d_Ps_replaceInValues_22 : decode b_Ps_replaceInValues 22 = .ok (.getfield 9, 3) := by decide +kernel
theorem d_Ps_replaceInValues_25 : decode b_Ps_replaceInValues 25 = .ok (.iload_n 3, 1) := by decide +kernel
theorem d_Ps_replaceInValues_26 : decode b_Ps_replaceInValues 26 = .ok (.dup2, 1) := by decide +kernel
theorem d_Ps_replaceInValues_27 : decode b_Ps_replaceInValues 27 = .ok (.iaload, 1) := by decide +kernel
theorem d_Ps_replaceInValues_28 : decode b_Ps_replaceInValues 28 = .ok (.iconst 1, 1) := by decide +kernel
theorem d_Ps_replaceInValues_29 : decode b_Ps_replaceInValues 29 = .ok (.iload_n 1, 1) := by decide +kernel
theorem d_Ps_replaceInValues_30 : decode b_Ps_replaceInValues 30 = .ok (.ishl, 1) := by decide +kernel
theorem d_Ps_replaceInValues_31 : decode b_Ps_replaceInValues 31 = .ok (.iload_n 2, 1) := by decide +kernel
theorem d_Ps_replaceInValues_32 : decode b_Ps_replaceInValues 32 = .ok (.ixor, 1) := by decide +kernel
theorem d_Ps_replaceInValues_33 : decode b_Ps_replaceInValues 33 = .ok (.ixor, 1) := by decide +kernel
theorem d_Ps_replaceInValues_34 : decode b_Ps_replaceInValues 34 = .ok (.iastore, 1) := by decide +kernel
theorem d_Ps_replaceInValues_35 : decode b_Ps_replaceInValues 35 = .ok (.iinc 3 1, 3) := by decide +kernel
theorem d_Ps_replaceInValues_38 : decode b_Ps_replaceInValues 38 = .ok (.goto (-36), 3) := by decide +kernel
theorem d_Ps_replaceInValues_41 : decode b_Ps_replaceInValues 41 = .ok (.return_, 1) := by decide +kernel
theorem d_Ps_findAmplitude_0 : decode b_Ps_findAmplitude 0 = .ok (.iconst 0, 1) := by decide +kernel
theorem d_Ps_findAmplitude_1 : decode b_Ps_findAmplitude 1 = .ok (.istore 4, 2) := by decide +kernel
theorem d_Ps_findAmplitude_3 : decode b_Ps_findAmplitude 3 = .ok (.iconst 0, 1) := by decide +kernel
theorem d_Ps_findAmplitude_4 : decode b_Ps_findAmplitude 4 = .ok (.istore 5, 2) := by decide +kernel
theorem d_Ps_findAmplitude_6 : decode b_Ps_findAmplitude 6 = .ok (.iload 5, 2) := by decide +kernel
theorem d_Ps_findAmplitude_8 : decode b_Ps_findAmplitude 8 = .ok (.aload_n 0, 1) := by decide +kernel
theorem d_Ps_findAmplitude_9 : decode b_Ps_findAmplitude 9 = .ok (.getfield 137, 3) := by decide +kernel
theorem d_Ps_findAmplitude_12 : decode b_Ps_findAmplitude 12 = .ok (.if_icmp .ge 41, 3) := by decide +kernel
theorem d_Ps_findAmplitude_15 : decode b_Ps_findAmplitude 15 = .ok (.iload 5, 2) := by decide +kernel
theorem d_Ps_findAmplitude_17 : decode b_Ps_findAmplitude 17 = .ok (.bipush 6, 2) := by decide +kernel
theorem d_Ps_findAmplitude_19 : decode b_Ps_findAmplitude 19 = .ok (.if_icmp .ge 34, 3) := by decide +kernel
theorem d_Ps_findAmplitude_22 : decode b_Ps_findAmplitude 22 = .ok (.iload 4, 2) := by decide +kernel
theorem d_Ps_findAmplitude_24 : decode b_Ps_findAmplitude 24 = .ok (.aload_n 0, 1) := by decide +kernel
theorem d_Ps_findAmplitude_25 : decode b_Ps_findAmplitude 25 = .ok (.getfield 9, 3) := by decide +kernel
theorem d_Ps_findAmplitude_28 : decode b_Ps_findAmplitude 28 = .ok (.iload 5, 2) := by decide +kernel
theorem d_Ps_findAmplitude_30 : decode b_Ps_findAmplitude 30 = .ok (.iaload, 1) := by decide +kernel
theorem d_Ps_findAmplitude_31 : decode b_Ps_findAmplitude 31 = .ok (.iload_n 2, 1) := by decide +kernel
theorem d_Ps_findAmplitude_32 : decode b_Ps_findAmplitude 32 = .ok (.ldc 53, 2) := by decide +kernel
theorem d_Ps_findAmplitude_34 : decode b_Ps_findAmplitude 34 = .ok (.ior, 1) := by decide +kernel
theorem d_Ps_findAmplitude_35 : decode b_Ps_findAmplitude 35 = .ok (.iand, 1) := by decide +kernel
theorem d_Ps_findAmplitude_36 : decode b_Ps_findAmplitude 36 = .ok (.invokestatic 101, 3) := by decide +kernel
theorem d_Ps_findAmplitude_39 : decode b_Ps_findAmplitude 39 = .ok (.iconst 1, 1) := by decide +kernel
theorem d_Ps_findAmplitude_40 : decode b_Ps_findAmplitude 40 = .ok (.iand, 1) := by decide +kernel
theorem d_Ps_findAmplitude_41 : decode b_Ps_findAmplitude 41 = .ok (.iload 5, 2) := by decide +kernel
theorem d_Ps_findAmplitude_43 : decode b_Ps_findAmplitude 43 = .ok (.ishl, 1) := by decide +kernel
theorem d_Ps_findAmplitude_44 : decode b_Ps_findAmplitude 44 = .ok (.ior, 1) := by decide +kernel
theorem d_Ps_findAmplitude_45 : decode b_Ps_findAmplitude 45 = .ok (.istore 4, 2) := by decide +kernel
theorem d_Ps_findAmplitude_47 : decode b_Ps_findAmplitude 47 = .ok (.iinc 5 1, 3) := by decide +kernel
theorem d_Ps_findAmplitude_50 : decode b_Ps_findAmplitude 50 = .ok (.goto (-44), 3) := by decide +kernel
theorem d_Ps_findAmplitude_53 : decode b_Ps_findAmplitude 53 = .ok (.aload_n 0, 1) := by decide +kernel
theorem d_Ps_findAmplitude_54 : decode b_Ps_findAmplitude 54 = .ok (.getfield 30, 3) := by decide +kernel
theorem d_Ps_findAmplitude_57 : decode b_Ps_findAmplitude 57 = .ok (.iload_n 1, 1) := by decide +kernel
theorem d_Ps_findAmplitude_58 : decode b_Ps_findAmplitude 58 = .ok (.aload_n 0, 1) := by decide +kernel
theorem d_Ps_findAmplitude_59 : decode b_Ps_findAmplitude 59 = .ok (.getfield 9, 3) := by decide +kernel
theorem d_Ps_findAmplitude_62 : decode b_Ps_findAmplitude 62 = .ok (.invokevirtual 179, 3) := by decide +kernel
theorem d_Ps_findAmplitude_65 : decode b_Ps_findAmplitude 65 = .ok (.aload_n 0, 1) := by decide +kernel
theorem d_Ps_findAmplitude_66 : decode b_Ps_findAmplitude 66 = .ok (.getfield 30, 3) := by decide +kernel
theorem d_Ps_findAmplitude_69 : decode b_Ps_findAmplitude 69 = .ok (.aload_n 0, 1) := by decide +kernel
theorem d_Ps_findAmplitude_70 : decode b_Ps_findAmplitude 70 = .ok (.getfield 16, 3) := by decide +kernel
theorem d_Ps_findAmplitude_73 : decode b_Ps_findAmplitude 73 = .ok (.iload_n 1, 1) := by decide +kernel
theorem d_Ps_findAmplitude_74 : decode b_Ps_findAmplitude 74 = .ok (.iload_n 2, 1) := by decide +kernel
theorem d_Ps_findAmplitude_75 : decode b_Ps_findAmplitude 75 = .ok (.ior, 1) := by decide +kernel
theorem d_Ps_findAmplitude_76 : decode b_Ps_findAmplitude 76 = .ok (.invokevirtual 183, 3) := by decide +kernel
theorem d_Ps_findAmplitude_79 : decode b_Ps_findAmplitude 79 = .ok (.aload_n 0, 1) := by decide +kernel
theorem d_Ps_findAmplitude_80 : decode b_Ps_findAmplitude 80 = .ok (.getfield 30, 3) := by decide +kernel
theorem d_Ps_findAmplitude_83 : decode b_Ps_findAmplitude 83 = .ok (.iload 4, 2) := by decide +kernel
theorem d_Ps_findAmplitude_85 : decode b_Ps_findAmplitude 85 = .ok (.iload_n 3, 1) := by decide +kernel
theorem d_Ps_findAmplitude_86 : decode b_Ps_findAmplitude 86 = .ok (.invokevirtual 187, 3) := by decide +kernel
theorem d_Ps_findAmplitude_89 : decode b_Ps_findAmplitude 89 = .ok (.aload_n 0, 1) := by decide +kernel
theorem d_Ps_findAmplitude_90 : decode b_Ps_findAmplitude 90 = .ok (.getfield 37, 3) := by decide +kernel
theorem d_Ps_findAmplitude_93 : decode b_Ps_findAmplitude 93 = .ok (.aload_n 0, 1) := by decide +kernel
theorem d_Ps_findAmplitude_94 : decode b_Ps_findAmplitude 94 = .ok (.getfield 30, 3) := by decide +kernel
theorem d_Ps_findAmplitude_97 : decode b_Ps_findAmplitude 97 = .ok (.getfield 190, 3) := by decide +kernel
theorem d_Ps_findAmplitude_100 : decode b_Ps_findAmplitude 100 = .ok (.aload_n 0, 1) := by decide +kernel
theorem d_Ps_findAmplitude_101 : decode b_Ps_findAmplitude 101 = .ok (.getfield 146, 3) := by decide +kernel
theorem d_Ps_findAmplitude_104 : decode b_Ps_findAmplitude 104 = .ok (.invokevirtual 193, 3) := by decide +kernel
theorem d_Ps_findAmplitude_107 : decode b_Ps_findAmplitude 107 = .ok (.return_, 1) := by decide +kernel
