theorem dX7_init_0 : decode cX7_init 0 = .ok (.aload_n 0, 1) := by decide +kernel
theorem dX7_init_1 : decode cX7_init 1 = .ok (.invokespecial 1, 3) := by decide +kernel
theorem dX7_init_4 : decode cX7_init 4 = .ok (.aload_n 0, 1) := by decide +kernel
theorem dX7_init_5 : decode cX7_init 5 = .ok (.bipush 9, 2) := by decide +kernel
theorem dX7_init_7 : decode cX7_init 7 = .ok (.newarray .int, 2) := by decide +kernel
theorem dX7_init_9 : decode cX7_init 9 = .ok (.putfield 9, 3) := by decide +kernel
theorem dX7_init_12 : decode cX7_init 12 = .ok (.aload_n 0, 1) := by decide +kernel
theorem dX7_init_13 : decode cX7_init 13 = .ok (.bipush 9, 2) := by decide +kernel
theorem dX7_init_15 : decode cX7_init 15 = .ok (.newarray .int, 2) := by decide +kernel
theorem dX7_init_17 : decode cX7_init 17 = .ok (.putfield 13, 3) := by decide +kernel
theorem dX7_init_20 : decode cX7_init 20 = .ok (.aload_n 0, 1) := by decide +kernel
theorem dX7_init_21 : decode cX7_init 21 = .ok (.bipush 9, 2) := by decide +kernel
theorem dX7_init_23 : decode cX7_init 23 = .ok (.newarray .int, 2) := by decide +kernel
theorem dX7_init_25 : decode cX7_init 25 = .ok (.putfield 16, 3) := by decide +kernel
theorem dX7_init_28 : decode cX7_init 28 = .ok (.aload_n 0, 1) := by decide +kernel
theorem dX7_init_29 : decode cX7_init 29 = .ok (.bipush 36, 2) := by decide +kernel
theorem dX7_init_31 : decode cX7_init 31 = .ok (.newarray .int, 2) := by decide +kernel
theorem dX7_init_33 : decode cX7_init 33 = .ok (.putfield 19, 3) := by decide +kernel
theorem dX7_init_36 : decode cX7_init 36 = .ok (.aload_n 0, 1) := by decide +kernel
theorem dX7_init_37 : decode cX7_init 37 = .ok (.bipush 9, 2) := by decide +kernel
theorem dX7_init_39 : decode cX7_init 39 = .ok (.newarray .int, 2) := by decide +kernel
theorem dX7_init_41 : decode cX7_init 41 = .ok (.putfield 22, 3) := by decide +kernel
theorem dX7_init_44 : decode cX7_init 44 = .ok (.aload_n 0, 1) := by decide +kernel
theorem dX7_init_45 : decode cX7_init 45 = .ok (.iconst 4, 1) := by decide +kernel
theorem dX7_init_46 : decode cX7_init 46 = .ok (.putfield 25, 3) := by decide +kernel
theorem dX7_init_49 : decode cX7_init 49 = .ok (.aload_n 0, 1) := by decide +kernel
theorem dX7_init_50 : decode cX7_init 50 = .ok (.iconst 3, 1) := by decide +kernel
theorem dX7_init_51 : decode cX7_init 51 = .ok (.newarray .int, 2) := by decide +kernel
theorem dX7_init_53 : decode cX7_init 53 = .ok (.putfield 29, 3) := by decide +kernel
theorem dX7_init_56 : decode cX7_init 56 = .ok (.aload_n 0, 1) := by decide +kernel
theorem dX7_init_57 : decode cX7_init 57 = .ok (.sipush 4096, 3) := by decide +kernel
theorem dX7_init_60 : decode cX7_init 60 = .ok (.newarray .boolean, 2) := by decide +kernel
theorem dX7_init_62 : decode cX7_init 62 = .ok (.putfield 32, 3) := by decide +kernel
theorem dX7_init_65 : decode cX7_init 65 = .ok (.aload_n 0, 1) := by decide +kernel
theorem dX7_init_66 : decode cX7_init 66 = .ok (.bipush 100, 2) := by decide +kernel
theorem dX7_init_68 : decode cX7_init 68 = .ok (.newarray .int, 2) := by decide +kernel
theorem dX7_init_70 : decode cX7_init 70 = .ok (.putfield 36, 3) := by decide +kernel
theorem dX7_init_73 : decode cX7_init 73 = .ok (.aload_n 0, 1) := by decide +kernel
theorem dX7_init_74 : decode cX7_init 74 = .ok (.bipush 100, 2) := by decide +kernel
theorem dX7_init_76 : decode cX7_init 76 = .ok (.newarray .int, 2) := by decide +kernel
theorem dX7_init_78 : decode cX7_init 78 = .ok (.putfield 39, 3) := by decide +kernel
theorem dX7_init_81 : decode cX7_init 81 = .ok (.aload_n 0, 1) := by decide +kernel
theorem dX7_init_82 : decode cX7_init 82 = .ok (.bipush 100, 2) := by decide +kernel
theorem dX7_init_84 : decode cX7_init 84 = .ok (.newarray .int, 2) := by decide +kernel
theorem dX7_init_86 : decode cX7_init 86 = .ok (.putfield 42, 3) := by decide +kernel
theorem dX7_init_89 : decode cX7_init 89 = .ok (.aload_n 0, 1) := by decide +kernel
theorem dX7_init_90 : decode cX7_init 90 = .ok (.bipush 9, 2) := by decide +kernel
theorem dX7_init_92 : decode cX7_init 92 = .ok (.newarray .int, 2) := by decide +kernel
theorem dX7_init_94 : decode cX7_init 94 = .ok (.putfield 45, 3) := by decide +kernel
theorem dX7_init_97 : decode cX7_init 97 = .ok (.aload_n 0, 1) := by decide +kernel
theorem dX7_init_98 : decode cX7_init 98 = .ok (.iconst (-1), 1) := by decide +kernel
theorem dX7_init_99 : decode cX7_init 99 = .ok (.putfield 48, 3) := by decide +kernel
theorem dX7_init_102 : decode cX7_init 102 = .ok (.aload_n 0, 1) := by decide +kernel
theorem dX7_init_103 : decode cX7_init 103 = .ok (.bipush 9, 2) := by decide +kernel
theorem dX7_init_105 : decode cX7_init 105 = .ok (.newarray .int, 2) := by decide +kernel
theorem dX7_init_107 : decode cX7_init 107 = .ok (.putfield 51, 3) := by decide +kernel
theorem dX7_init_110 : decode cX7_init 110 = .ok (.aload_n 0, 1) := by decide +kernel
theorem dX7_init_111 : decode cX7_init 111 = .ok (.ldc 54, 2) := by decide +kernel
theorem dX7_init_113 : decode cX7_init 113 = .ok (.newarray .int, 2) := by decide +kernel
theorem dX7_init_115 : decode cX7_init 115 = .ok (.putfield 55, 3) := by decide +kernel
theorem dX7_init_118 : decode cX7_init 118 = .ok (.aload_n 0, 1) := by decide +kernel
theorem dX7_init_119 : decode cX7_init 119 = .ok (.ldc 54, 2) := by decide +kernel
theorem dX7_init_121 : decode cX7_init 121 = .ok (.newarray .boolean, 2) := by decide +kernel
theorem dX7_init_123 : decode cX7_init 123 = .ok (.putfield 58, 3) := by decide +kernel
theorem dX7_init_126 : decode cX7_init 126 = .ok (.aload_n 0, 1) := by decide +kernel
theorem dX7_init_127 : decode cX7_init 127 = .ok (.ldc 54, 2) := by decide +kernel
theorem dX7_init_129 : decode cX7_init 129 = .ok (.newarray .int, 2) := by decide +kernel
theorem dX7_init_131 : decode cX7_init 131 = .ok (.putfield 61, 3) := by decide +kernel
theorem dX7_init_134 : decode cX7_init 134 = .ok (.aload_n 0, 1) := by decide +kernel
theorem dX7_init_135 : decode cX7_init 135 = .ok (.ldc 54, 2) := by decide +kernel
theorem dX7_init_137 : decode cX7_init 137 = .ok (.newarray .boolean, 2) := by decide +kernel
theorem dX7_init_139 : decode cX7_init 139 = .ok (.putfield 64, 3) := by decide +kernel
theorem dX7_init_142 : decode cX7_init 142 = .ok (.aload_n 0, 1) := by decide +kernel
theorem dX7_init_143 : decode cX7_init 143 = .ok (.ldc 54, 2) := by decide +kernel
theorem dX7_init_145 : decode cX7_init 145 = .ok (.newarray .int, 2) := by decide +kernel
theorem dX7_init_147 : decode cX7_init 147 = .ok (.putfield 67, 3) := by decide +kernel
theorem dX7_init_150 : decode cX7_init 150 = .ok (.aload_n 0, 1) := by decide +kernel
theorem dX7_init_151 : decode cX7_init 151 = .ok (.ldc 54, 2) := by decide +kernel
theorem dX7_init_153 : decode cX7_init 153 = .ok (.newarray .int, 2) := by decide +kernel
theorem dX7_init_155 : decode cX7_init 155 = .ok (.putfield 70, 3) := by decide +kernel
theorem dX7_init_158 : decode cX7_init 158 = .ok (.iconst 0, 1) := by decide +kernel
theorem dX7_init_159 : decode cX7_init 159 = .ok (.istore_n 1, 1) := by decide +kernel
theorem dX7_init_160 : decode cX7_init 160 = .ok (.iload_n 1, 1) := by decide +kernel
theorem dX7_init_161 : decode cX7_init 161 = .ok (.bipush 9, 2) := by decide +kernel
theorem dX7_init_163 : decode cX7_init 163 = .ok (.if_icmp .ge 16, 3) := by decide +kernel
theorem dX7_init_166 : decode cX7_init 166 = .ok (.aload_n 0, 1) := by decide +kernel
theorem dX7_init_167 : decode cX7_init 167 = .ok (.getfield 16, 3) := by decide +kernel
theorem dX7_init_170 : decode cX7_init 170 = .ok (.iload_n 1, 1) := by decide +kernel
theorem dX7_init_171 : decode cX7_init 171 = .ok (.iconst (-1), 1) := by decide +kernel
theorem dX7_init_172 : decode cX7_init 172 = .ok (.iastore, 1) := by decide +kernel
theorem dX7_init_173 : decode cX7_init 173 = .ok (.iinc 1 1, 3) := by decide +kernel
theorem dX7_init_176 : decode cX7_init 176 = .ok (.goto (-16), 3) := by decide +kernel
theorem dX7_init_179 : decode cX7_init 179 = .ok (.return_, 1) := by decide +kernel
theorem dX7_isBath_0 : decode cX7_isBath 0 = .ok (.iload_n 1, 1) := by decide +kernel
theorem dX7_isBath_1 : decode cX7_isBath 1 = .ok (.ifCond .lt 15, 3) := by decide +kernel
theorem dX7_isBath_4 : decode cX7_isBath 4 = .ok (.iload_n 1, 1) := by decide +kernel
theorem dX7_isBath_5 : decode cX7_isBath 5 = .ok (.aload_n 0, 1) := by decide +kernel
theorem dX7_isBath_6 : decode cX7_isBath 6 = .ok (.getfield 73, 3) := by decide +kernel
theorem dX7_isBath_9 : decode cX7_isBath 9 = .ok (.if_icmp .ge 7, 3) := by decide +kernel
theorem dX7_isBath_12 : decode cX7_isBath 12 = .ok (.iconst 1, 1) := by decide +kernel
theorem dX7_isBath_13 : decode cX7_isBath 13 = .ok (.goto 4, 3) := by decide +kernel
theorem dX7_isBath_16 : decode cX7_isBath 16 = .ok (.iconst 0, 1) := by decide +kernel
theorem dX7_isBath_17 : decode cX7_isBath 17 = .ok (.ireturn, 1) := by decide +kernel
theorem dX7_has_0 : decode cX7_has 0 = .ok (.iload_n 0, 1) := by decide +kernel
theorem dX7_has_1 : decode cX7_has 1 = .ok (.iload_n 1, 1) := by decide +kernel
theorem dX7_has_2 : decode cX7_has 2 = .ok (.ishr, 1) := by decide +kernel
theorem dX7_has_3 : decode cX7_has 3 = .ok (.iconst 1, 1) := by decide +kernel
theorem dX7_has_4 : decode cX7_has 4 = .ok (.iand, 1) := by decide +kernel
theorem dX7_has_5 : decode cX7_has 5 = .ok (.iconst 1, 1) := by decide +kernel
theorem dX7_has_6 : decode cX7_has 6 = .ok (.if_icmp .ne 7, 3) := by decide +kernel
theorem dX7_has_9 : decode cX7_has 9 = .ok (.iconst 1, 1) := by decide +kernel
theorem dX7_has_10 : decode cX7_has 10 = .ok (.goto 4, 3) := by decide +kernel
theorem dX7_has_13 : decode cX7_has 13 = .ok (.iconst 0, 1) := by decide +kernel
theorem dX7_has_14 : decode cX7_has 14 = .ok (.ireturn, 1) := by decide +kernel
theorem dX7_fills_0 : decode cX7_fills 0 = .ok (.iload_n 1, 1) := by decide +kernel
theorem dX7_fills_1 : decode cX7_fills 1 = .ok (.iload_n 3, 1) := by decide +kernel
theorem dX7_fills_2 : decode cX7_fills 2 = .ok (.invokestatic 76, 3) := by decide +kernel
theorem dX7_fills_5 : decode cX7_fills 5 = .ok (.ifCond .ne 7, 3) := by decide +kernel
theorem dX7_fills_8 : decode cX7_fills 8 = .ok (.iconst 0, 1) := by decide +kernel
theorem dX7_fills_9 : decode cX7_fills 9 = .ok (.goto 25, 3) := by decide +kernel
theorem dX7_fills_12 : decode cX7_fills 12 = .ok (.aload_n 0, 1) := by decide +kernel
theorem dX7_fills_13 : decode cX7_fills 13 = .ok (.getfield 9, 3) := by decide +kernel
theorem dX7_fills_16 : decode cX7_fills 16 = .ok (.iload_n 3, 1) := by decide +kernel
theorem dX7_fills_17 : decode cX7_fills 17 = .ok (.iaload, 1) := by decide +kernel
theorem dX7_fills_18 : decode cX7_fills 18 = .ok (.iconst 2, 1) := by decide +kernel
theorem dX7_fills_19 : decode cX7_fills 19 = .ok (.if_icmp .eq 10, 3) := by decide +kernel
theorem dX7_fills_22 : decode cX7_fills 22 = .ok (.iload_n 2, 1) := by decide +kernel
theorem dX7_fills_23 : decode cX7_fills 23 = .ok (.iload_n 3, 1) := by decide +kernel
theorem dX7_fills_24 : decode cX7_fills 24 = .ok (.iconst 1, 1) := by decide +kernel
theorem dX7_fills_25 : decode cX7_fills 25 = .ok (.iadd, 1) := by decide +kernel
theorem dX7_fills_26 : decode cX7_fills 26 = .ok (.if_icmp .ne 7, 3) := by decide +kernel
theorem dX7_fills_29 : decode cX7_fills 29 = .ok (.iconst 2, 1) := by decide +kernel
theorem dX7_fills_30 : decode cX7_fills 30 = .ok (.goto 4, 3) := by decide +kernel
theorem dX7_fills_33 : decode cX7_fills 33 = .ok (.iconst 1, 1) := by decide +kernel
theorem dX7_fills_34 : decode cX7_fills 34 = .ok (.ireturn, 1) := by decide +kernel
theorem dX7_filled_0 : decode cX7_filled 0 = .ok (.iconst 0, 1) := by decide +kernel
theorem dX7_filled_1 : decode cX7_filled 1 = .ok (.istore_n 3, 1) := by decide +kernel
theorem dX7_filled_2 : decode cX7_filled 2 = .ok (.iconst 0, 1) := by decide +kernel
theorem dX7_filled_3 : decode cX7_filled 3 = .ok (.istore 4, 2) := by decide +kernel
theorem dX7_filled_5 : decode cX7_filled 5 = .ok (.iload 4, 2) := by decide +kernel
theorem dX7_filled_7 : decode cX7_filled 7 = .ok (.bipush 9, 2) := by decide +kernel
theorem dX7_filled_9 : decode cX7_filled 9 = .ok (.if_icmp .ge 20, 3) := by decide +kernel
theorem dX7_filled_12 : decode cX7_filled 12 = .ok (.iload_n 3, 1) := by decide +kernel
theorem dX7_filled_13 : decode cX7_filled 13 = .ok (.aload_n 0, 1) := by decide +kernel
theorem dX7_filled_14 : decode cX7_filled 14 = .ok (.iload_n 1, 1) := by decide +kernel
theorem dX7_filled_15 : decode cX7_filled 15 = .ok (.iload_n 2, 1) := by decide +kernel
theorem dX7_filled_16 : decode cX7_filled 16 = .ok (.iload 4, 2) := by decide +kernel
theorem dX7_filled_18 : decode cX7_filled 18 = .ok (.invokevirtual 80, 3) := by decide +kernel
theorem dX7_filled_21 : decode cX7_filled 21 = .ok (.iadd, 1) := by decide +kernel
theorem dX7_filled_22 : decode cX7_filled 22 = .ok (.istore_n 3, 1) := by decide +kernel
theorem dX7_filled_23 : decode cX7_filled 23 = .ok (.iinc 4 1, 3) := by decide +kernel
theorem dX7_filled_26 : decode cX7_filled 26 = .ok (.goto (-21), 3) := by decide +kernel
theorem dX7_filled_29 : decode cX7_filled 29 = .ok (.iload_n 3, 1) := by decide +kernel
theorem dX7_filled_30 : decode cX7_filled 30 = .ok (.ireturn, 1) := by decide +kernel
theorem dX7_used_0 : decode cX7_used 0 = .ok (.aload_n 0, 1) := by decide +kernel
theorem dX7_used_1 : decode cX7_used 1 = .ok (.getfield 9, 3) := by decide +kernel
theorem dX7_used_4 : decode cX7_used 4 = .ok (.iload_n 1, 1) := by decide +kernel
theorem dX7_used_5 : decode cX7_used 5 = .ok (.iaload, 1) := by decide +kernel
theorem dX7_used_6 : decode cX7_used 6 = .ok (.iconst 1, 1) := by decide +kernel
theorem dX7_used_7 : decode cX7_used 7 = .ok (.if_icmp .eq 15, 3) := by decide +kernel
theorem dX7_used_10 : decode cX7_used 10 = .ok (.aload_n 0, 1) := by decide +kernel
theorem dX7_used_11 : decode cX7_used 11 = .ok (.getfield 9, 3) := by decide +kernel
theorem dX7_used_14 : decode cX7_used 14 = .ok (.iload_n 1, 1) := by decide +kernel
theorem dX7_used_15 : decode cX7_used 15 = .ok (.iaload, 1) := by decide +kernel
theorem dX7_used_16 : decode cX7_used 16 = .ok (.iconst 3, 1) := by decide +kernel
theorem dX7_used_17 : decode cX7_used 17 = .ok (.if_icmp .eq 5, 3) := by decide +kernel
theorem dX7_used_20 : decode cX7_used 20 = .ok (.iconst (-1), 1) := by decide +kernel
theorem dX7_used_21 : decode cX7_used 21 = .ok (.ireturn, 1) := by decide +kernel
theorem dX7_used_22 : decode cX7_used 22 = .ok (.iconst 0, 1) := by decide +kernel
theorem dX7_used_23 : decode cX7_used 23 = .ok (.istore_n 2, 1) := by decide +kernel
theorem dX7_used_24 : decode cX7_used 24 = .ok (.iload_n 2, 1) := by decide +kernel
theorem dX7_used_25 : decode cX7_used 25 = .ok (.aload_n 0, 1) := by decide +kernel
theorem dX7_used_26 : decode cX7_used 26 = .ok (.getfield 16, 3) := by decide +kernel
theorem dX7_used_29 : decode cX7_used 29 = .ok (.iload_n 1, 1) := by decide +kernel
theorem dX7_used_30 : decode cX7_used 30 = .ok (.iaload, 1) := by decide +kernel
theorem dX7_used_31 : decode cX7_used 31 = .ok (.if_icmp .ge 33, 3) := by decide +kernel
theorem dX7_used_34 : decode cX7_used 34 = .ok (.aload_n 0, 1) := by decide +kernel
theorem dX7_used_35 : decode cX7_used 35 = .ok (.getfield 19, 3) := by decide +kernel
theorem dX7_used_38 : decode cX7_used 38 = .ok (.iconst 4, 1) := by decide +kernel
theorem dX7_used_39 : decode cX7_used 39 = .ok (.iload_n 1, 1) := by decide +kernel
theorem dX7_used_40 : decode cX7_used 40 = .ok (.imul, 1) := by decide +kernel
theorem dX7_used_41 : decode cX7_used 41 = .ok (.iload_n 2, 1) := by decide +kernel
theorem dX7_used_42 : decode cX7_used 42 = .ok (.iadd, 1) := by decide +kernel
theorem dX7_used_43 : decode cX7_used 43 = .ok (.iaload, 1) := by decide +kernel
theorem dX7_used_44 : decode cX7_used 44 = .ok (.ifCond .lt 14, 3) := by decide +kernel
theorem dX7_used_47 : decode cX7_used 47 = .ok (.aload_n 0, 1) := by decide +kernel
theorem dX7_used_48 : decode cX7_used 48 = .ok (.getfield 19, 3) := by decide +kernel
theorem dX7_used_51 : decode cX7_used 51 = .ok (.iconst 4, 1) := by decide +kernel
theorem dX7_used_52 : decode cX7_used 52 = .ok (.iload_n 1, 1) := by decide +kernel
theorem dX7_used_53 : decode cX7_used 53 = .ok (.imul, 1) := by decide +kernel
theorem dX7_used_54 : decode cX7_used 54 = .ok (.iload_n 2, 1) := by decide +kernel
theorem dX7_used_55 : decode cX7_used 55 = .ok (.iadd, 1) := by decide +kernel
theorem dX7_used_56 : decode cX7_used 56 = .ok (.iaload, 1) := by decide +kernel
theorem dX7_used_57 : decode cX7_used 57 = .ok (.ireturn, 1) := by decide +kernel
theorem dX7_used_58 : decode cX7_used 58 = .ok (.iinc 2 1, 3) := by decide +kernel
theorem dX7_used_61 : decode cX7_used 61 = .ok (.goto (-37), 3) := by decide +kernel
theorem dX7_used_64 : decode cX7_used 64 = .ok (.iconst (-1), 1) := by decide +kernel
theorem dX7_used_65 : decode cX7_used 65 = .ok (.ireturn, 1) := by decide +kernel
theorem dX7_reason_0 : decode cX7_reason 0 = .ok (.aload_n 0, 1) := by decide +kernel
theorem dX7_reason_1 : decode cX7_reason 1 = .ok (.getfield 16, 3) := by decide +kernel
theorem dX7_reason_4 : decode cX7_reason 4 = .ok (.iload_n 3, 1) := by decide +kernel
theorem dX7_reason_5 : decode cX7_reason 5 = .ok (.iaload, 1) := by decide +kernel
theorem dX7_reason_6 : decode cX7_reason 6 = .ok (.ifCond .ge 5, 3) := by decide +kernel
theorem dX7_reason_9 : decode cX7_reason 9 = .ok (.iconst 1, 1) := by decide +kernel
theorem dX7_reason_10 : decode cX7_reason 10 = .ok (.ireturn, 1) := by decide +kernel
theorem dX7_reason_11 : decode cX7_reason 11 = .ok (.iload_n 1, 1) := by decide +kernel
theorem dX7_reason_12 : decode cX7_reason 12 = .ok (.iload_n 3, 1) := by decide +kernel
theorem dX7_reason_13 : decode cX7_reason 13 = .ok (.invokestatic 76, 3) := by decide +kernel
theorem dX7_reason_16 : decode cX7_reason 16 = .ok (.ifCond .eq 5, 3) := by decide +kernel
theorem dX7_reason_19 : decode cX7_reason 19 = .ok (.iconst 2, 1) := by decide +kernel
theorem dX7_reason_20 : decode cX7_reason 20 = .ok (.ireturn, 1) := by decide +kernel
theorem dX7_reason_21 : decode cX7_reason 21 = .ok (.iconst 0, 1) := by decide +kernel
theorem dX7_reason_22 : decode cX7_reason 22 = .ok (.istore 5, 2) := by decide +kernel
theorem dX7_reason_24 : decode cX7_reason 24 = .ok (.iload 5, 2) := by decide +kernel
theorem dX7_reason_26 : decode cX7_reason 26 = .ok (.aload_n 0, 1) := by decide +kernel
theorem dX7_reason_27 : decode cX7_reason 27 = .ok (.getfield 16, 3) := by decide +kernel
theorem dX7_reason_30 : decode cX7_reason 30 = .ok (.iload_n 3, 1) := by decide +kernel
theorem dX7_reason_31 : decode cX7_reason 31 = .ok (.iaload, 1) := by decide +kernel
theorem dX7_reason_32 : decode cX7_reason 32 = .ok (.if_icmp .ge 38, 3) := by decide +kernel
theorem dX7_reason_35 : decode cX7_reason 35 = .ok (.aload_n 0, 1) := by decide +kernel
theorem dX7_reason_36 : decode cX7_reason 36 = .ok (.getfield 19, 3) := by decide +kernel
theorem dX7_reason_39 : decode cX7_reason 39 = .ok (.iconst 4, 1) := by decide +kernel
theorem dX7_reason_40 : decode cX7_reason 40 = .ok (.iload_n 3, 1) := by decide +kernel
theorem dX7_reason_41 : decode cX7_reason 41 = .ok (.imul, 1) := by decide +kernel
theorem dX7_reason_42 : decode cX7_reason 42 = .ok (.iload 5, 2) := by decide +kernel
theorem dX7_reason_44 : decode cX7_reason 44 = .ok (.iadd, 1) := by decide +kernel
theorem dX7_reason_45 : decode cX7_reason 45 = .ok (.iaload, 1) := by decide +kernel
theorem dX7_reason_46 : decode cX7_reason 46 = .ok (.istore 6, 2) := by decide +kernel
theorem dX7_reason_48 : decode cX7_reason 48 = .ok (.iload 6, 2) := by decide +kernel
theorem dX7_reason_50 : decode cX7_reason 50 = .ok (.ifCond .lt 14, 3) := by decide +kernel
theorem dX7_reason_53 : decode cX7_reason 53 = .ok (.iload_n 1, 1) := by decide +kernel
theorem dX7_reason_54 : decode cX7_reason 54 = .ok (.iload 6, 2) := by decide +kernel
theorem dX7_reason_56 : decode cX7_reason 56 = .ok (.invokestatic 76, 3) := by decide +kernel
theorem dX7_reason_59 : decode cX7_reason 59 = .ok (.ifCond .ne 5, 3) := by decide +kernel
theorem dX7_reason_62 : decode cX7_reason 62 = .ok (.iconst 3, 1) := by decide +kernel
theorem dX7_reason_63 : decode cX7_reason 63 = .ok (.ireturn, 1) := by decide +kernel
theorem dX7_reason_64 : decode cX7_reason 64 = .ok (.iinc 5 1, 3) := by decide +kernel
theorem dX7_reason_67 : decode cX7_reason 67 = .ok (.goto (-43), 3) := by decide +kernel
theorem dX7_reason_70 : decode cX7_reason 70 = .ok (.aload_n 0, 1) := by decide +kernel
theorem dX7_reason_71 : decode cX7_reason 71 = .ok (.iload_n 3, 1) := by decide +kernel
theorem dX7_reason_72 : decode cX7_reason 72 = .ok (.invokevirtual 84, 3) := by decide +kernel
theorem dX7_reason_75 : decode cX7_reason 75 = .ok (.istore 5, 2) := by decide +kernel
theorem dX7_reason_77 : decode cX7_reason 77 = .ok (.iconst 0, 1) := by decide +kernel
theorem dX7_reason_78 : decode cX7_reason 78 = .ok (.istore 6, 2) := by decide +kernel
theorem dX7_reason_80 : decode cX7_reason 80 = .ok (.iload 6, 2) := by decide +kernel
theorem dX7_reason_82 : decode cX7_reason 82 = .ok (.aload_n 0, 1) := by decide +kernel
theorem dX7_reason_83 : decode cX7_reason 83 = .ok (.getfield 73, 3) := by decide +kernel
theorem dX7_reason_86 : decode cX7_reason 86 = .ok (.if_icmp .ge 48, 3) := by decide +kernel
theorem dX7_reason_89 : decode cX7_reason 89 = .ok (.aload_n 0, 1) := by decide +kernel
theorem dX7_reason_90 : decode cX7_reason 90 = .ok (.getfield 9, 3) := by decide +kernel
theorem dX7_reason_93 : decode cX7_reason 93 = .ok (.iload_n 3, 1) := by decide +kernel
theorem dX7_reason_94 : decode cX7_reason 94 = .ok (.iaload, 1) := by decide +kernel
theorem dX7_reason_95 : decode cX7_reason 95 = .ok (.iconst 3, 1) := by decide +kernel
theorem dX7_reason_96 : decode cX7_reason 96 = .ok (.if_icmp .ne 32, 3) := by decide +kernel
theorem dX7_reason_99 : decode cX7_reason 99 = .ok (.aload_n 0, 1) := by decide +kernel
theorem dX7_reason_100 : decode cX7_reason 100 = .ok (.getfield 9, 3) := by decide +kernel
theorem dX7_reason_103 : decode cX7_reason 103 = .ok (.iload 6, 2) := by decide +kernel
theorem dX7_reason_105 : decode cX7_reason 105 = .ok (.iaload, 1) := by decide +kernel
theorem dX7_reason_106 : decode cX7_reason 106 = .ok (.iconst 3, 1) := by decide +kernel
theorem dX7_reason_107 : decode cX7_reason 107 = .ok (.if_icmp .ne 21, 3) := by decide +kernel
theorem dX7_reason_110 : decode cX7_reason 110 = .ok (.iload_n 1, 1) := by decide +kernel
theorem dX7_reason_111 : decode cX7_reason 111 = .ok (.iload 6, 2) := by decide +kernel
theorem dX7_reason_113 : decode cX7_reason 113 = .ok (.invokestatic 76, 3) := by decide +kernel
theorem dX7_reason_116 : decode cX7_reason 116 = .ok (.ifCond .eq 12, 3) := by decide +kernel
theorem dX7_reason_119 : decode cX7_reason 119 = .ok (.iload 6, 2) := by decide +kernel
theorem dX7_reason_121 : decode cX7_reason 121 = .ok (.iload 5, 2) := by decide +kernel
theorem dX7_reason_123 : decode cX7_reason 123 = .ok (.if_icmp .eq 5, 3) := by decide +kernel
theorem dX7_reason_126 : decode cX7_reason 126 = .ok (.iconst 4, 1) := by decide +kernel
theorem dX7_reason_127 : decode cX7_reason 127 = .ok (.ireturn, 1) := by decide +kernel
theorem dX7_reason_128 : decode cX7_reason 128 = .ok (.iinc 6 1, 3) := by decide +kernel
theorem dX7_reason_131 : decode cX7_reason 131 = .ok (.goto (-51), 3) := by decide +kernel
theorem dX7_reason_134 : decode cX7_reason 134 = .ok (.iload 4, 2) := by decide +kernel
theorem dX7_reason_136 : decode cX7_reason 136 = .ok (.aload_n 0, 1) := by decide +kernel
theorem dX7_reason_137 : decode cX7_reason 137 = .ok (.iload_n 1, 1) := by decide +kernel
theorem dX7_reason_138 : decode cX7_reason 138 = .ok (.iload_n 2, 1) := by decide +kernel
theorem dX7_reason_139 : decode cX7_reason 139 = .ok (.invokevirtual 88, 3) := by decide +kernel
theorem dX7_reason_142 : decode cX7_reason 142 = .ok (.isub, 1) := by decide +kernel
theorem dX7_reason_143 : decode cX7_reason 143 = .ok (.iload 5, 2) := by decide +kernel
theorem dX7_reason_145 : decode cX7_reason 145 = .ok (.ifCond .ge 7, 3) := by decide +kernel
theorem dX7_reason_148 : decode cX7_reason 148 = .ok (.iconst 0, 1) := by decide +kernel
theorem dX7_reason_149 : decode cX7_reason 149 = .ok (.goto 11, 3) := by decide +kernel
theorem dX7_reason_152 : decode cX7_reason 152 = .ok (.aload_n 0, 1) := by decide +kernel
theorem dX7_reason_153 : decode cX7_reason 153 = .ok (.iload_n 1, 1) := by decide +kernel
theorem dX7_reason_154 : decode cX7_reason 154 = .ok (.iload_n 2, 1) := by decide +kernel
theorem dX7_reason_155 : decode cX7_reason 155 = .ok (.iload 5, 2) := by decide +kernel
theorem dX7_reason_157 : decode cX7_reason 157 = .ok (.invokevirtual 80, 3) := by decide +kernel
theorem dX7_reason_160 : decode cX7_reason 160 = .ok (.iadd, 1) := by decide +kernel
theorem dX7_reason_161 : decode cX7_reason 161 = .ok (.istore 6, 2) := by decide +kernel
theorem dX7_reason_163 : decode cX7_reason 163 = .ok (.iload 6, 2) := by decide +kernel
theorem dX7_reason_165 : decode cX7_reason 165 = .ok (.aload_n 0, 1) := by decide +kernel
theorem dX7_reason_166 : decode cX7_reason 166 = .ok (.getfield 9, 3) := by decide +kernel
theorem dX7_reason_169 : decode cX7_reason 169 = .ok (.iload_n 3, 1) := by decide +kernel
theorem dX7_reason_170 : decode cX7_reason 170 = .ok (.iaload, 1) := by decide +kernel
theorem dX7_reason_171 : decode cX7_reason 171 = .ok (.iconst 2, 1) := by decide +kernel
theorem dX7_reason_172 : decode cX7_reason 172 = .ok (.if_icmp .eq 13, 3) := by decide +kernel
theorem dX7_reason_175 : decode cX7_reason 175 = .ok (.aload_n 0, 1) := by decide +kernel
theorem dX7_reason_176 : decode cX7_reason 176 = .ok (.getfield 9, 3) := by decide +kernel
theorem dX7_reason_179 : decode cX7_reason 179 = .ok (.iload_n 3, 1) := by decide +kernel
theorem dX7_reason_180 : decode cX7_reason 180 = .ok (.iaload, 1) := by decide +kernel
theorem dX7_reason_181 : decode cX7_reason 181 = .ok (.iconst 4, 1) := by decide +kernel
theorem dX7_reason_182 : decode cX7_reason 182 = .ok (.if_icmp .ne 7, 3) := by decide +kernel
theorem dX7_reason_185 : decode cX7_reason 185 = .ok (.iconst 2, 1) := by decide +kernel
theorem dX7_reason_186 : decode cX7_reason 186 = .ok (.goto 4, 3) := by decide +kernel
theorem dX7_reason_189 : decode cX7_reason 189 = .ok (.iconst 1, 1) := by decide +kernel
theorem dX7_reason_190 : decode cX7_reason 190 = .ok (.if_icmp .ge 7, 3) := by decide +kernel
theorem dX7_reason_193 : decode cX7_reason 193 = .ok (.iconst 5, 1) := by decide +kernel
theorem dX7_reason_194 : decode cX7_reason 194 = .ok (.goto 4, 3) := by decide +kernel
theorem dX7_reason_197 : decode cX7_reason 197 = .ok (.iconst 0, 1) := by decide +kernel
theorem dX7_reason_198 : decode cX7_reason 198 = .ok (.ireturn, 1) := by decide +kernel
theorem dX7_standsBehind_0 : decode cX7_standsBehind 0 = .ok (.aload_n 0, 1) := by decide +kernel
theorem dX7_standsBehind_1 : decode cX7_standsBehind 1 = .ok (.iload_n 2, 1) := by decide +kernel
theorem dX7_standsBehind_2 : decode cX7_standsBehind 2 = .ok (.invokevirtual 84, 3) := by decide +kernel
theorem dX7_standsBehind_5 : decode cX7_standsBehind 5 = .ok (.istore_n 3, 1) := by decide +kernel
theorem dX7_standsBehind_6 : decode cX7_standsBehind 6 = .ok (.iload_n 3, 1) := by decide +kernel
theorem dX7_standsBehind_7 : decode cX7_standsBehind 7 = .ok (.ifCond .ge 7, 3) := by decide +kernel
theorem dX7_standsBehind_10 : decode cX7_standsBehind 10 = .ok (.iload_n 1, 1) := by decide +kernel
theorem dX7_standsBehind_11 : decode cX7_standsBehind 11 = .ok (.goto 10, 3) := by decide +kernel
theorem dX7_standsBehind_14 : decode cX7_standsBehind 14 = .ok (.iload_n 1, 1) := by decide +kernel
theorem dX7_standsBehind_15 : decode cX7_standsBehind 15 = .ok (.iconst 1, 1) := by decide +kernel
theorem dX7_standsBehind_16 : decode cX7_standsBehind 16 = .ok (.iload_n 3, 1) := by decide +kernel
theorem dX7_standsBehind_17 : decode cX7_standsBehind 17 = .ok (.ishl, 1) := by decide +kernel
theorem dX7_standsBehind_18 : decode cX7_standsBehind 18 = .ok (.iconst (-1), 1) := by decide +kernel
theorem dX7_standsBehind_19 : decode cX7_standsBehind 19 = .ok (.ixor, 1) := by decide +kernel
theorem dX7_standsBehind_20 : decode cX7_standsBehind 20 = .ok (.iand, 1) := by decide +kernel
theorem dX7_standsBehind_21 : decode cX7_standsBehind 21 = .ok (.iconst 1, 1) := by decide +kernel
theorem dX7_standsBehind_22 : decode cX7_standsBehind 22 = .ok (.iload_n 2, 1) := by decide +kernel
theorem dX7_standsBehind_23 : decode cX7_standsBehind 23 = .ok (.ishl, 1) := by decide +kernel
theorem dX7_standsBehind_24 : decode cX7_standsBehind 24 = .ok (.ior, 1) := by decide +kernel
theorem dX7_standsBehind_25 : decode cX7_standsBehind 25 = .ok (.ireturn, 1) := by decide +kernel
theorem dX7_freshBehind_0 : decode cX7_freshBehind 0 = .ok (.aload_n 0, 1) := by decide +kernel
theorem dX7_freshBehind_1 : decode cX7_freshBehind 1 = .ok (.getfield 9, 3) := by decide +kernel
theorem dX7_freshBehind_4 : decode cX7_freshBehind 4 = .ok (.iload_n 1, 1) := by decide +kernel
theorem dX7_freshBehind_5 : decode cX7_freshBehind 5 = .ok (.iaload, 1) := by decide +kernel
theorem dX7_freshBehind_6 : decode cX7_freshBehind 6 = .ok (.iconst 4, 1) := by decide +kernel
theorem dX7_freshBehind_7 : decode cX7_freshBehind 7 = .ok (.if_icmp .ne 9, 3) := by decide +kernel
theorem dX7_freshBehind_10 : decode cX7_freshBehind 10 = .ok (.iload_n 1, 1) := by decide +kernel
theorem dX7_freshBehind_11 : decode cX7_freshBehind 11 = .ok (.iconst 1, 1) := by decide +kernel
theorem dX7_freshBehind_12 : decode cX7_freshBehind 12 = .ok (.iadd, 1) := by decide +kernel
theorem dX7_freshBehind_13 : decode cX7_freshBehind 13 = .ok (.goto 4, 3) := by decide +kernel
theorem dX7_freshBehind_16 : decode cX7_freshBehind 16 = .ok (.iconst 0, 1) := by decide +kernel
theorem dX7_freshBehind_17 : decode cX7_freshBehind 17 = .ok (.ireturn, 1) := by decide +kernel
theorem dX7_freshPoured_0 : decode cX7_freshPoured 0 = .ok (.iload_n 0, 1) := by decide +kernel
theorem dX7_freshPoured_1 : decode cX7_freshPoured 1 = .ok (.iload_n 1, 1) := by decide +kernel
theorem dX7_freshPoured_2 : decode cX7_freshPoured 2 = .ok (.iconst 1, 1) := by decide +kernel
theorem dX7_freshPoured_3 : decode cX7_freshPoured 3 = .ok (.iadd, 1) := by decide +kernel
theorem dX7_freshPoured_4 : decode cX7_freshPoured 4 = .ok (.if_icmp .ne 7, 3) := by decide +kernel
theorem dX7_freshPoured_7 : decode cX7_freshPoured 7 = .ok (.iconst 0, 1) := by decide +kernel
theorem dX7_freshPoured_8 : decode cX7_freshPoured 8 = .ok (.goto 4, 3) := by decide +kernel
theorem dX7_freshPoured_11 : decode cX7_freshPoured 11 = .ok (.iload_n 0, 1) := by decide +kernel
theorem dX7_freshPoured_12 : decode cX7_freshPoured 12 = .ok (.ireturn, 1) := by decide +kernel
theorem dX7_keep_0 : decode cX7_keep 0 = .ok (.aload_n 0, 1) := by decide +kernel
theorem dX7_keep_1 : decode cX7_keep 1 = .ok (.getfield 92, 3) := by decide +kernel
theorem dX7_keep_4 : decode cX7_keep 4 = .ok (.bipush 100, 2) := by decide +kernel
theorem dX7_keep_6 : decode cX7_keep 6 = .ok (.if_icmp .ne 69, 3) := by decide +kernel
theorem dX7_keep_9 : decode cX7_keep 9 = .ok (.iconst 1, 1) := by decide +kernel
theorem dX7_keep_10 : decode cX7_keep 10 = .ok (.istore_n 2, 1) := by decide +kernel
theorem dX7_keep_11 : decode cX7_keep 11 = .ok (.iload_n 2, 1) := by decide +kernel
theorem dX7_keep_12 : decode cX7_keep 12 = .ok (.bipush 100, 2) := by decide +kernel
theorem dX7_keep_14 : decode cX7_keep 14 = .ok (.if_icmp .ge 51, 3) := by decide +kernel
theorem dX7_keep_17 : decode cX7_keep 17 = .ok (.aload_n 0, 1) := by decide +kernel
theorem dX7_keep_18 : decode cX7_keep 18 = .ok (.getfield 36, 3) := by decide +kernel
theorem dX7_keep_21 : decode cX7_keep 21 = .ok (.iload_n 2, 1) := by decide +kernel
theorem dX7_keep_22 : decode cX7_keep 22 = .ok (.iconst 1, 1) := by decide +kernel
theorem dX7_keep_23 : decode cX7_keep 23 = .ok (.isub, 1) := by decide +kernel
theorem dX7_keep_24 : decode cX7_keep 24 = .ok (.aload_n 0, 1) := by decide +kernel
theorem dX7_keep_25 : decode cX7_keep 25 = .ok (.getfield 36, 3) := by decide +kernel
theorem dX7_keep_28 : decode cX7_keep 28 = .ok (.iload_n 2, 1) := by decide +kernel
theorem dX7_keep_29 : decode cX7_keep 29 = .ok (.iaload, 1) := by decide +kernel
theorem dX7_keep_30 : decode cX7_keep 30 = .ok (.iastore, 1) := by decide +kernel
theorem dX7_keep_31 : decode cX7_keep 31 = .ok (.aload_n 0, 1) := by decide +kernel
theorem dX7_keep_32 : decode cX7_keep 32 = .ok (.getfield 39, 3) := by decide +kernel
theorem dX7_keep_35 : decode cX7_keep 35 = .ok (.iload_n 2, 1) := by decide +kernel
theorem dX7_keep_36 : decode cX7_keep 36 = .ok (.iconst 1, 1) := by decide +kernel
theorem dX7_keep_37 : decode cX7_keep 37 = .ok (.isub, 1) := by decide +kernel
theorem dX7_keep_38 : decode cX7_keep 38 = .ok (.aload_n 0, 1) := by decide +kernel
theorem dX7_keep_39 : decode cX7_keep 39 = .ok (.getfield 39, 3) := by decide +kernel
theorem dX7_keep_42 : decode cX7_keep 42 = .ok (.iload_n 2, 1) := by decide +kernel
theorem dX7_keep_43 : decode cX7_keep 43 = .ok (.iaload, 1) := by decide +kernel
theorem dX7_keep_44 : decode cX7_keep 44 = .ok (.iastore, 1) := by decide +kernel
theorem dX7_keep_45 : decode cX7_keep 45 = .ok (.aload_n 0, 1) := by decide +kernel
theorem dX7_keep_46 : decode cX7_keep 46 = .ok (.getfield 42, 3) := by decide +kernel
theorem dX7_keep_49 : decode cX7_keep 49 = .ok (.iload_n 2, 1) := by decide +kernel
theorem dX7_keep_50 : decode cX7_keep 50 = .ok (.iconst 1, 1) := by decide +kernel
theorem dX7_keep_51 : decode cX7_keep 51 = .ok (.isub, 1) := by decide +kernel
theorem dX7_keep_52 : decode cX7_keep 52 = .ok (.aload_n 0, 1) := by decide +kernel
theorem dX7_keep_53 : decode cX7_keep 53 = .ok (.getfield 42, 3) := by decide +kernel
theorem dX7_keep_56 : decode cX7_keep 56 = .ok (.iload_n 2, 1) := by decide +kernel
theorem dX7_keep_57 : decode cX7_keep 57 = .ok (.iaload, 1) := by decide +kernel
theorem dX7_keep_58 : decode cX7_keep 58 = .ok (.iastore, 1) := by decide +kernel
theorem dX7_keep_59 : decode cX7_keep 59 = .ok (.iinc 2 1, 3) := by decide +kernel
theorem dX7_keep_62 : decode cX7_keep 62 = .ok (.goto (-51), 3) := by decide +kernel
theorem dX7_keep_65 : decode cX7_keep 65 = .ok (.aload_n 0, 1) := by decide +kernel
theorem dX7_keep_66 : decode cX7_keep 66 = .ok (.dup, 1) := by decide +kernel
theorem dX7_keep_67 : decode cX7_keep 67 = .ok (.getfield 92, 3) := by decide +kernel
theorem dX7_keep_70 : decode cX7_keep 70 = .ok (.iconst 1, 1) := by decide +kernel
theorem dX7_keep_71 : decode cX7_keep 71 = .ok (.isub, 1) := by decide +kernel
theorem dX7_keep_72 : decode cX7_keep 72 = .ok (.putfield 92, 3) := by decide +kernel
theorem dX7_keep_75 : decode cX7_keep 75 = .ok (.aload_n 0, 1) := by decide +kernel
theorem dX7_keep_76 : decode cX7_keep 76 = .ok (.getfield 36, 3) := by decide +kernel
theorem dX7_keep_79 : decode cX7_keep 79 = .ok (.aload_n 0, 1) := by decide +kernel
theorem dX7_keep_80 : decode cX7_keep 80 = .ok (.getfield 92, 3) := by decide +kernel
theorem dX7_keep_83 : decode cX7_keep 83 = .ok (.aload_n 0, 1) := by decide +kernel
theorem dX7_keep_84 : decode cX7_keep 84 = .ok (.getfield 95, 3) := by decide +kernel
theorem dX7_keep_87 : decode cX7_keep 87 = .ok (.iastore, 1) := by decide +kernel
theorem dX7_keep_88 : decode cX7_keep 88 = .ok (.aload_n 0, 1) := by decide +kernel
theorem dX7_keep_89 : decode cX7_keep 89 = .ok (.getfield 39, 3) := by decide +kernel
theorem dX7_keep_92 : decode cX7_keep 92 = .ok (.aload_n 0, 1) := by decide +kernel
theorem dX7_keep_93 : decode cX7_keep 93 = .ok (.getfield 92, 3) := by decide +kernel
theorem dX7_keep_96 : decode cX7_keep 96 = .ok (.aload_n 0, 1) := by decide +kernel
theorem dX7_keep_97 : decode cX7_keep 97 = .ok (.getfield 98, 3) := by decide +kernel
theorem dX7_keep_100 : decode cX7_keep 100 = .ok (.iastore, 1) := by decide +kernel
theorem dX7_keep_101 : decode cX7_keep 101 = .ok (.aload_n 0, 1) := by decide +kernel
theorem dX7_keep_102 : decode cX7_keep 102 = .ok (.getfield 42, 3) := by decide +kernel
theorem dX7_keep_105 : decode cX7_keep 105 = .ok (.aload_n 0, 1) := by decide +kernel
theorem dX7_keep_106 : decode cX7_keep 106 = .ok (.getfield 92, 3) := by decide +kernel
theorem dX7_keep_109 : decode cX7_keep 109 = .ok (.iload_n 1, 1) := by decide +kernel
theorem dX7_keep_110 : decode cX7_keep 110 = .ok (.iastore, 1) := by decide +kernel
theorem dX7_keep_111 : decode cX7_keep 111 = .ok (.aload_n 0, 1) := by decide +kernel
theorem dX7_keep_112 : decode cX7_keep 112 = .ok (.dup, 1) := by decide +kernel
theorem dX7_keep_113 : decode cX7_keep 113 = .ok (.getfield 92, 3) := by decide +kernel
theorem dX7_keep_116 : decode cX7_keep 116 = .ok (.iconst 1, 1) := by decide +kernel
theorem dX7_keep_117 : decode cX7_keep 117 = .ok (.iadd, 1) := by decide +kernel
theorem dX7_keep_118 : decode cX7_keep 118 = .ok (.putfield 92, 3) := by decide +kernel
theorem dX7_keep_121 : decode cX7_keep 121 = .ok (.return_, 1) := by decide +kernel
theorem dX7_free_0 : decode cX7_free 0 = .ok (.aload_n 0, 1) := by decide +kernel
theorem dX7_free_1 : decode cX7_free 1 = .ok (.getfield 25, 3) := by decide +kernel
theorem dX7_free_4 : decode cX7_free 4 = .ok (.aload_n 0, 1) := by decide +kernel
theorem dX7_free_5 : decode cX7_free 5 = .ok (.aload_n 0, 1) := by decide +kernel
theorem dX7_free_6 : decode cX7_free 6 = .ok (.getfield 95, 3) := by decide +kernel
theorem dX7_free_9 : decode cX7_free 9 = .ok (.aload_n 0, 1) := by decide +kernel
theorem dX7_free_10 : decode cX7_free 10 = .ok (.getfield 98, 3) := by decide +kernel
theorem dX7_free_13 : decode cX7_free 13 = .ok (.invokevirtual 88, 3) := by decide +kernel
theorem dX7_free_16 : decode cX7_free 16 = .ok (.isub, 1) := by decide +kernel
theorem dX7_free_17 : decode cX7_free 17 = .ok (.ireturn, 1) := by decide +kernel
theorem dX7_vats_0 : decode cX7_vats 0 = .ok (.iload_n 1, 1) := by decide +kernel
theorem dX7_vats_1 : decode cX7_vats 1 = .ok (.iconst 1, 1) := by decide +kernel
theorem dX7_vats_2 : decode cX7_vats 2 = .ok (.if_icmp .lt 25, 3) := by decide +kernel
theorem dX7_vats_5 : decode cX7_vats 5 = .ok (.iload_n 1, 1) := by decide +kernel
theorem dX7_vats_6 : decode cX7_vats 6 = .ok (.bipush 18, 2) := by decide +kernel
theorem dX7_vats_8 : decode cX7_vats 8 = .ok (.if_icmp .gt 19, 3) := by decide +kernel
theorem dX7_vats_11 : decode cX7_vats 11 = .ok (.iload_n 1, 1) := by decide +kernel
theorem dX7_vats_12 : decode cX7_vats 12 = .ok (.aload_n 0, 1) := by decide +kernel
theorem dX7_vats_13 : decode cX7_vats 13 = .ok (.aload_n 0, 1) := by decide +kernel
theorem dX7_vats_14 : decode cX7_vats 14 = .ok (.getfield 95, 3) := by decide +kernel
theorem dX7_vats_17 : decode cX7_vats 17 = .ok (.aload_n 0, 1) := by decide +kernel
theorem dX7_vats_18 : decode cX7_vats 18 = .ok (.getfield 98, 3) := by decide +kernel
theorem dX7_vats_21 : decode cX7_vats 21 = .ok (.invokevirtual 88, 3) := by decide +kernel
theorem dX7_vats_24 : decode cX7_vats 24 = .ok (.if_icmp .ge 6, 3) := by decide +kernel
theorem dX7_vats_27 : decode cX7_vats 27 = .ok (.bipush (-2), 2) := by decide +kernel
theorem dX7_vats_29 : decode cX7_vats 29 = .ok (.ireturn, 1) := by decide +kernel
theorem dX7_vats_30 : decode cX7_vats 30 = .ok (.aload_n 0, 1) := by decide +kernel
theorem dX7_vats_31 : decode cX7_vats 31 = .ok (.getfield 25, 3) := by decide +kernel
theorem dX7_vats_34 : decode cX7_vats 34 = .ok (.istore_n 2, 1) := by decide +kernel
theorem dX7_vats_35 : decode cX7_vats 35 = .ok (.aload_n 0, 1) := by decide +kernel
theorem dX7_vats_36 : decode cX7_vats 36 = .ok (.iload_n 1, 1) := by decide +kernel
theorem dX7_vats_37 : decode cX7_vats 37 = .ok (.putfield 25, 3) := by decide +kernel
theorem dX7_vats_40 : decode cX7_vats 40 = .ok (.aload_n 0, 1) := by decide +kernel
theorem dX7_vats_41 : decode cX7_vats 41 = .ok (.iconst 0, 1) := by decide +kernel
theorem dX7_vats_42 : decode cX7_vats 42 = .ok (.putfield 92, 3) := by decide +kernel
theorem dX7_vats_45 : decode cX7_vats 45 = .ok (.iload_n 2, 1) := by decide +kernel
theorem dX7_vats_46 : decode cX7_vats 46 = .ok (.ireturn, 1) := by decide +kernel
theorem dX7_bath_0 : decode cX7_bath 0 = .ok (.iload_n 1, 1) := by decide +kernel
theorem dX7_bath_1 : decode cX7_bath 1 = .ok (.ifCond .lt 17, 3) := by decide +kernel
theorem dX7_bath_4 : decode cX7_bath 4 = .ok (.iload_n 1, 1) := by decide +kernel
theorem dX7_bath_5 : decode cX7_bath 5 = .ok (.iconst 4, 1) := by decide +kernel
theorem dX7_bath_6 : decode cX7_bath 6 = .ok (.if_icmp .gt 12, 3) := by decide +kernel
theorem dX7_bath_9 : decode cX7_bath 9 = .ok (.aload_n 0, 1) := by decide +kernel
theorem dX7_bath_10 : decode cX7_bath 10 = .ok (.getfield 73, 3) := by decide +kernel
theorem dX7_bath_13 : decode cX7_bath 13 = .ok (.bipush 9, 2) := by decide +kernel
theorem dX7_bath_15 : decode cX7_bath 15 = .ok (.if_icmp .ne 6, 3) := by decide +kernel
theorem dX7_bath_18 : decode cX7_bath 18 = .ok (.bipush (-2), 2) := by decide +kernel
theorem dX7_bath_20 : decode cX7_bath 20 = .ok (.ireturn, 1) := by decide +kernel
theorem dX7_bath_21 : decode cX7_bath 21 = .ok (.aload_n 0, 1) := by decide +kernel
theorem dX7_bath_22 : decode cX7_bath 22 = .ok (.getfield 9, 3) := by decide +kernel
theorem dX7_bath_25 : decode cX7_bath 25 = .ok (.aload_n 0, 1) := by decide +kernel
theorem dX7_bath_26 : decode cX7_bath 26 = .ok (.getfield 73, 3) := by decide +kernel
theorem dX7_bath_29 : decode cX7_bath 29 = .ok (.iload_n 1, 1) := by decide +kernel
theorem dX7_bath_30 : decode cX7_bath 30 = .ok (.iastore, 1) := by decide +kernel
theorem dX7_bath_31 : decode cX7_bath 31 = .ok (.aload_n 0, 1) := by decide +kernel
theorem dX7_bath_32 : decode cX7_bath 32 = .ok (.dup, 1) := by decide +kernel
theorem dX7_bath_33 : decode cX7_bath 33 = .ok (.getfield 73, 3) := by decide +kernel
theorem dX7_bath_36 : decode cX7_bath 36 = .ok (.iconst 1, 1) := by decide +kernel
theorem dX7_bath_37 : decode cX7_bath 37 = .ok (.iadd, 1) := by decide +kernel
theorem dX7_bath_38 : decode cX7_bath 38 = .ok (.putfield 73, 3) := by decide +kernel
theorem dX7_bath_41 : decode cX7_bath 41 = .ok (.aload_n 0, 1) := by decide +kernel
theorem dX7_bath_42 : decode cX7_bath 42 = .ok (.getfield 73, 3) := by decide +kernel
theorem dX7_bath_45 : decode cX7_bath 45 = .ok (.iconst 1, 1) := by decide +kernel
theorem dX7_bath_46 : decode cX7_bath 46 = .ok (.isub, 1) := by decide +kernel
theorem dX7_bath_47 : decode cX7_bath 47 = .ok (.ireturn, 1) := by decide +kernel
theorem dX7_recipe_0 : decode cX7_recipe 0 = .ok (.aload_n 0, 1) := by decide +kernel
theorem dX7_recipe_1 : decode cX7_recipe 1 = .ok (.iload_n 1, 1) := by decide +kernel
theorem dX7_recipe_2 : decode cX7_recipe 2 = .ok (.invokevirtual 101, 3) := by decide +kernel
theorem dX7_recipe_5 : decode cX7_recipe 5 = .ok (.ifCond .eq 24, 3) := by decide +kernel
theorem dX7_recipe_8 : decode cX7_recipe 8 = .ok (.iload_n 2, 1) := by decide +kernel
theorem dX7_recipe_9 : decode cX7_recipe 9 = .ok (.ifCond .lt 20, 3) := by decide +kernel
theorem dX7_recipe_12 : decode cX7_recipe 12 = .ok (.iload_n 2, 1) := by decide +kernel
theorem dX7_recipe_13 : decode cX7_recipe 13 = .ok (.iconst 2, 1) := by decide +kernel
theorem dX7_recipe_14 : decode cX7_recipe 14 = .ok (.if_icmp .gt 15, 3) := by decide +kernel
theorem dX7_recipe_17 : decode cX7_recipe 17 = .ok (.aload_n 0, 1) := by decide +kernel
theorem dX7_recipe_18 : decode cX7_recipe 18 = .ok (.getfield 95, 3) := by decide +kernel
theorem dX7_recipe_21 : decode cX7_recipe 21 = .ok (.ifCond .ne 8, 3) := by decide +kernel
theorem dX7_recipe_24 : decode cX7_recipe 24 = .ok (.iload_n 3, 1) := by decide +kernel
theorem dX7_recipe_25 : decode cX7_recipe 25 = .ok (.iconst 4, 1) := by decide +kernel
theorem dX7_recipe_26 : decode cX7_recipe 26 = .ok (.if_icmp .le 6, 3) := by decide +kernel
theorem dX7_recipe_29 : decode cX7_recipe 29 = .ok (.bipush (-2), 2) := by decide +kernel
theorem dX7_recipe_31 : decode cX7_recipe 31 = .ok (.ireturn, 1) := by decide +kernel
theorem dX7_recipe_32 : decode cX7_recipe 32 = .ok (.iload_n 3, 1) := by decide +kernel
theorem dX7_recipe_33 : decode cX7_recipe 33 = .ok (.ifCond .ge 6, 3) := by decide +kernel
theorem dX7_recipe_36 : decode cX7_recipe 36 = .ok (.bipush (-13), 2) := by decide +kernel
theorem dX7_recipe_38 : decode cX7_recipe 38 = .ok (.ireturn, 1) := by decide +kernel
theorem dX7_recipe_39 : decode cX7_recipe 39 = .ok (.aload_n 0, 1) := by decide +kernel
theorem dX7_recipe_40 : decode cX7_recipe 40 = .ok (.getfield 13, 3) := by decide +kernel
theorem dX7_recipe_43 : decode cX7_recipe 43 = .ok (.iload_n 1, 1) := by decide +kernel
theorem dX7_recipe_44 : decode cX7_recipe 44 = .ok (.iload_n 2, 1) := by decide +kernel
theorem dX7_recipe_45 : decode cX7_recipe 45 = .ok (.iastore, 1) := by decide +kernel
theorem dX7_recipe_46 : decode cX7_recipe 46 = .ok (.aload_n 0, 1) := by decide +kernel
theorem dX7_recipe_47 : decode cX7_recipe 47 = .ok (.getfield 16, 3) := by decide +kernel
theorem dX7_recipe_50 : decode cX7_recipe 50 = .ok (.iload_n 1, 1) := by decide +kernel
theorem dX7_recipe_51 : decode cX7_recipe 51 = .ok (.iload_n 3, 1) := by decide +kernel
theorem dX7_recipe_52 : decode cX7_recipe 52 = .ok (.iastore, 1) := by decide +kernel
theorem dX7_recipe_53 : decode cX7_recipe 53 = .ok (.iconst 0, 1) := by decide +kernel
theorem dX7_recipe_54 : decode cX7_recipe 54 = .ok (.istore 4, 2) := by decide +kernel
theorem dX7_recipe_56 : decode cX7_recipe 56 = .ok (.iload 4, 2) := by decide +kernel
theorem dX7_recipe_58 : decode cX7_recipe 58 = .ok (.iconst 4, 1) := by decide +kernel
theorem dX7_recipe_59 : decode cX7_recipe 59 = .ok (.if_icmp .ge 21, 3) := by decide +kernel
theorem dX7_recipe_62 : decode cX7_recipe 62 = .ok (.aload_n 0, 1) := by decide +kernel
theorem dX7_recipe_63 : decode cX7_recipe 63 = .ok (.getfield 19, 3) := by decide +kernel
theorem dX7_recipe_66 : decode cX7_recipe 66 = .ok (.iconst 4, 1) := by decide +kernel
theorem dX7_recipe_67 : decode cX7_recipe 67 = .ok (.iload_n 1, 1) := by decide +kernel
theorem dX7_recipe_68 : decode cX7_recipe 68 = .ok (.imul, 1) := by decide +kernel
theorem dX7_recipe_69 : decode cX7_recipe 69 = .ok (.iload 4, 2) := by decide +kernel
theorem dX7_recipe_71 : decode cX7_recipe 71 = .ok (.iadd, 1) := by decide +kernel
theorem dX7_recipe_72 : decode cX7_recipe 72 = .ok (.iconst (-1), 1) := by decide +kernel
theorem dX7_recipe_73 : decode cX7_recipe 73 = .ok (.iastore, 1) := by decide +kernel
theorem dX7_recipe_74 : decode cX7_recipe 74 = .ok (.iinc 4 1, 3) := by decide +kernel
theorem dX7_recipe_77 : decode cX7_recipe 77 = .ok (.goto (-21), 3) := by decide +kernel
theorem dX7_recipe_80 : decode cX7_recipe 80 = .ok (.aload_n 0, 1) := by decide +kernel
theorem dX7_recipe_81 : decode cX7_recipe 81 = .ok (.iconst 0, 1) := by decide +kernel
theorem dX7_recipe_82 : decode cX7_recipe 82 = .ok (.putfield 92, 3) := by decide +kernel
theorem dX7_recipe_85 : decode cX7_recipe 85 = .ok (.iload_n 3, 1) := by decide +kernel
theorem dX7_recipe_86 : decode cX7_recipe 86 = .ok (.ireturn, 1) := by decide +kernel
theorem dX7_lose_0 : decode cX7_lose 0 = .ok (.aload_n 0, 1) := by decide +kernel
theorem dX7_lose_1 : decode cX7_lose 1 = .ok (.iload_n 1, 1) := by decide +kernel
theorem dX7_lose_2 : decode cX7_lose 2 = .ok (.invokevirtual 101, 3) := by decide +kernel
theorem dX7_lose_5 : decode cX7_lose 5 = .ok (.ifCond .eq 10, 3) := by decide +kernel
theorem dX7_lose_8 : decode cX7_lose 8 = .ok (.aload_n 0, 1) := by decide +kernel
theorem dX7_lose_9 : decode cX7_lose 9 = .ok (.getfield 95, 3) := by decide +kernel
theorem dX7_lose_12 : decode cX7_lose 12 = .ok (.ifCond .eq 6, 3) := by decide +kernel
theorem dX7_lose_15 : decode cX7_lose 15 = .ok (.bipush (-2), 2) := by decide +kernel
theorem dX7_lose_17 : decode cX7_lose 17 = .ok (.ireturn, 1) := by decide +kernel
theorem dX7_lose_18 : decode cX7_lose 18 = .ok (.aload_n 0, 1) := by decide +kernel
theorem dX7_lose_19 : decode cX7_lose 19 = .ok (.getfield 16, 3) := by decide +kernel
theorem dX7_lose_22 : decode cX7_lose 22 = .ok (.iload_n 1, 1) := by decide +kernel
theorem dX7_lose_23 : decode cX7_lose 23 = .ok (.iaload, 1) := by decide +kernel
theorem dX7_lose_24 : decode cX7_lose 24 = .ok (.ifCond .lt 7, 3) := by decide +kernel
theorem dX7_lose_27 : decode cX7_lose 27 = .ok (.iconst 1, 1) := by decide +kernel
theorem dX7_lose_28 : decode cX7_lose 28 = .ok (.goto 4, 3) := by decide +kernel
theorem dX7_lose_31 : decode cX7_lose 31 = .ok (.iconst 0, 1) := by decide +kernel
theorem dX7_lose_32 : decode cX7_lose 32 = .ok (.istore_n 2, 1) := by decide +kernel
theorem dX7_lose_33 : decode cX7_lose 33 = .ok (.aload_n 0, 1) := by decide +kernel
theorem dX7_lose_34 : decode cX7_lose 34 = .ok (.getfield 16, 3) := by decide +kernel
theorem dX7_lose_37 : decode cX7_lose 37 = .ok (.iload_n 1, 1) := by decide +kernel
theorem dX7_lose_38 : decode cX7_lose 38 = .ok (.iconst (-1), 1) := by decide +kernel
theorem dX7_lose_39 : decode cX7_lose 39 = .ok (.iastore, 1) := by decide +kernel
theorem dX7_lose_40 : decode cX7_lose 40 = .ok (.aload_n 0, 1) := by decide +kernel
theorem dX7_lose_41 : decode cX7_lose 41 = .ok (.iconst 0, 1) := by decide +kernel
theorem dX7_lose_42 : decode cX7_lose 42 = .ok (.putfield 92, 3) := by decide +kernel
theorem dX7_lose_45 : decode cX7_lose 45 = .ok (.iload_n 2, 1) := by decide +kernel
theorem dX7_lose_46 : decode cX7_lose 46 = .ok (.ireturn, 1) := by decide +kernel
theorem dX7_needs_0 : decode cX7_needs 0 = .ok (.iconst 0, 1) := by decide +kernel
theorem dX7_needs_1 : decode cX7_needs 1 = .ok (.istore_n 3, 1) := by decide +kernel
theorem dX7_needs_2 : decode cX7_needs 2 = .ok (.iconst 0, 1) := by decide +kernel
theorem dX7_needs_3 : decode cX7_needs 3 = .ok (.istore 4, 2) := by decide +kernel
theorem dX7_needs_5 : decode cX7_needs 5 = .ok (.iload 4, 2) := by decide +kernel
theorem dX7_needs_7 : decode cX7_needs 7 = .ok (.aload_n 0, 1) := by decide +kernel
theorem dX7_needs_8 : decode cX7_needs 8 = .ok (.getfield 16, 3) := by decide +kernel
theorem dX7_needs_11 : decode cX7_needs 11 = .ok (.iload_n 1, 1) := by decide +kernel
theorem dX7_needs_12 : decode cX7_needs 12 = .ok (.iaload, 1) := by decide +kernel
theorem dX7_needs_13 : decode cX7_needs 13 = .ok (.if_icmp .ge 32, 3) := by decide +kernel
theorem dX7_needs_16 : decode cX7_needs 16 = .ok (.iload_n 3, 1) := by decide +kernel
theorem dX7_needs_17 : decode cX7_needs 17 = .ok (.aload_n 0, 1) := by decide +kernel
theorem dX7_needs_18 : decode cX7_needs 18 = .ok (.getfield 19, 3) := by decide +kernel
theorem dX7_needs_21 : decode cX7_needs 21 = .ok (.iconst 4, 1) := by decide +kernel
theorem dX7_needs_22 : decode cX7_needs 22 = .ok (.iload_n 1, 1) := by decide +kernel
theorem dX7_needs_23 : decode cX7_needs 23 = .ok (.imul, 1) := by decide +kernel
theorem dX7_needs_24 : decode cX7_needs 24 = .ok (.iload 4, 2) := by decide +kernel
theorem dX7_needs_26 : decode cX7_needs 26 = .ok (.iadd, 1) := by decide +kernel
theorem dX7_needs_27 : decode cX7_needs 27 = .ok (.iaload, 1) := by decide +kernel
theorem dX7_needs_28 : decode cX7_needs 28 = .ok (.iload_n 2, 1) := by decide +kernel
theorem dX7_needs_29 : decode cX7_needs 29 = .ok (.if_icmp .ne 7, 3) := by decide +kernel
theorem dX7_needs_32 : decode cX7_needs 32 = .ok (.iconst 1, 1) := by decide +kernel
theorem dX7_needs_33 : decode cX7_needs 33 = .ok (.goto 4, 3) := by decide +kernel
theorem dX7_needs_36 : decode cX7_needs 36 = .ok (.iconst 0, 1) := by decide +kernel
theorem dX7_needs_37 : decode cX7_needs 37 = .ok (.ior, 1) := by decide +kernel
theorem dX7_needs_38 : decode cX7_needs 38 = .ok (.istore_n 3, 1) := by decide +kernel
theorem dX7_needs_39 : decode cX7_needs 39 = .ok (.iinc 4 1, 3) := by decide +kernel
theorem dX7_needs_42 : decode cX7_needs 42 = .ok (.goto (-37), 3) := by decide +kernel
theorem dX7_needs_45 : decode cX7_needs 45 = .ok (.iload_n 3, 1) := by decide +kernel
theorem dX7_needs_46 : decode cX7_needs 46 = .ok (.ireturn, 1) := by decide +kernel
theorem dX7_countSteps_0 : decode cX7_countSteps 0 = .ok (.iconst 0, 1) := by decide +kernel
theorem dX7_countSteps_1 : decode cX7_countSteps 1 = .ok (.istore_n 2, 1) := by decide +kernel
theorem dX7_countSteps_2 : decode cX7_countSteps 2 = .ok (.iload_n 2, 1) := by decide +kernel
theorem dX7_countSteps_3 : decode cX7_countSteps 3 = .ok (.bipush 9, 2) := by decide +kernel
theorem dX7_countSteps_5 : decode cX7_countSteps 5 = .ok (.if_icmp .ge 25, 3) := by decide +kernel
theorem dX7_countSteps_8 : decode cX7_countSteps 8 = .ok (.aload_n 0, 1) := by decide +kernel
theorem dX7_countSteps_9 : decode cX7_countSteps 9 = .ok (.getfield 51, 3) := by decide +kernel
theorem dX7_countSteps_12 : decode cX7_countSteps 12 = .ok (.iload_n 2, 1) := by decide +kernel
theorem dX7_countSteps_13 : decode cX7_countSteps 13 = .ok (.iload_n 2, 1) := by decide +kernel
theorem dX7_countSteps_14 : decode cX7_countSteps 14 = .ok (.iload_n 1, 1) := by decide +kernel
theorem dX7_countSteps_15 : decode cX7_countSteps 15 = .ok (.if_icmp .ne 7, 3) := by decide +kernel
theorem dX7_countSteps_18 : decode cX7_countSteps 18 = .ok (.iconst 0, 1) := by decide +kernel
theorem dX7_countSteps_19 : decode cX7_countSteps 19 = .ok (.goto 4, 3) := by decide +kernel
theorem dX7_countSteps_22 : decode cX7_countSteps 22 = .ok (.iconst (-1), 1) := by decide +kernel
theorem dX7_countSteps_23 : decode cX7_countSteps 23 = .ok (.iastore, 1) := by decide +kernel
theorem dX7_countSteps_24 : decode cX7_countSteps 24 = .ok (.iinc 2 1, 3) := by decide +kernel
theorem dX7_countSteps_27 : decode cX7_countSteps 27 = .ok (.goto (-25), 3) := by decide +kernel
theorem dX7_countSteps_30 : decode cX7_countSteps 30 = .ok (.iconst 1, 1) := by decide +kernel
theorem dX7_countSteps_31 : decode cX7_countSteps 31 = .ok (.istore_n 2, 1) := by decide +kernel
theorem dX7_countSteps_32 : decode cX7_countSteps 32 = .ok (.iload_n 2, 1) := by decide +kernel
theorem dX7_countSteps_33 : decode cX7_countSteps 33 = .ok (.bipush 9, 2) := by decide +kernel
theorem dX7_countSteps_35 : decode cX7_countSteps 35 = .ok (.if_icmp .ge 109, 3) := by decide +kernel
theorem dX7_countSteps_38 : decode cX7_countSteps 38 = .ok (.iconst 0, 1) := by decide +kernel
theorem dX7_countSteps_39 : decode cX7_countSteps 39 = .ok (.istore_n 3, 1) := by decide +kernel
theorem dX7_countSteps_40 : decode cX7_countSteps 40 = .ok (.iload_n 3, 1) := by decide +kernel
theorem dX7_countSteps_41 : decode cX7_countSteps 41 = .ok (.aload_n 0, 1) := by decide +kernel
theorem dX7_countSteps_42 : decode cX7_countSteps 42 = .ok (.getfield 73, 3) := by decide +kernel
theorem dX7_countSteps_45 : decode cX7_countSteps 45 = .ok (.if_icmp .ge 93, 3) := by decide +kernel
theorem dX7_countSteps_48 : decode cX7_countSteps 48 = .ok (.iconst 0, 1) := by decide +kernel
theorem dX7_countSteps_49 : decode cX7_countSteps 49 = .ok (.istore 4, 2) := by decide +kernel
theorem dX7_countSteps_51 : decode cX7_countSteps 51 = .ok (.iconst 0, 1) := by decide +kernel
theorem dX7_countSteps_52 : decode cX7_countSteps 52 = .ok (.istore 5, 2) := by decide +kernel
theorem dX7_countSteps_54 : decode cX7_countSteps 54 = .ok (.iload 5, 2) := by decide +kernel
theorem dX7_countSteps_56 : decode cX7_countSteps 56 = .ok (.aload_n 0, 1) := by decide +kernel
theorem dX7_countSteps_57 : decode cX7_countSteps 57 = .ok (.getfield 73, 3) := by decide +kernel
theorem dX7_countSteps_60 : decode cX7_countSteps 60 = .ok (.if_icmp .ge 42, 3) := by decide +kernel
theorem dX7_countSteps_63 : decode cX7_countSteps 63 = .ok (.iload 4, 2) := by decide +kernel
theorem dX7_countSteps_65 : decode cX7_countSteps 65 = .ok (.aload_n 0, 1) := by decide +kernel
theorem dX7_countSteps_66 : decode cX7_countSteps 66 = .ok (.getfield 51, 3) := by decide +kernel
theorem dX7_countSteps_69 : decode cX7_countSteps 69 = .ok (.iload 5, 2) := by decide +kernel
theorem dX7_countSteps_71 : decode cX7_countSteps 71 = .ok (.iaload, 1) := by decide +kernel
theorem dX7_countSteps_72 : decode cX7_countSteps 72 = .ok (.iload_n 2, 1) := by decide +kernel
theorem dX7_countSteps_73 : decode cX7_countSteps 73 = .ok (.iconst 1, 1) := by decide +kernel
theorem dX7_countSteps_74 : decode cX7_countSteps 74 = .ok (.isub, 1) := by decide +kernel
theorem dX7_countSteps_75 : decode cX7_countSteps 75 = .ok (.if_icmp .ne 17, 3) := by decide +kernel
theorem dX7_countSteps_78 : decode cX7_countSteps 78 = .ok (.aload_n 0, 1) := by decide +kernel
theorem dX7_countSteps_79 : decode cX7_countSteps 79 = .ok (.iload_n 3, 1) := by decide +kernel
theorem dX7_countSteps_80 : decode cX7_countSteps 80 = .ok (.iload 5, 2) := by decide +kernel
theorem dX7_countSteps_82 : decode cX7_countSteps 82 = .ok (.invokevirtual 105, 3) := by decide +kernel
theorem dX7_countSteps_85 : decode cX7_countSteps 85 = .ok (.ifCond .eq 7, 3) := by decide +kernel
theorem dX7_countSteps_88 : decode cX7_countSteps 88 = .ok (.iconst 1, 1) := by decide +kernel
theorem dX7_countSteps_89 : decode cX7_countSteps 89 = .ok (.goto 4, 3) := by decide +kernel
theorem dX7_countSteps_92 : decode cX7_countSteps 92 = .ok (.iconst 0, 1) := by decide +kernel
theorem dX7_countSteps_93 : decode cX7_countSteps 93 = .ok (.ior, 1) := by decide +kernel
theorem dX7_countSteps_94 : decode cX7_countSteps 94 = .ok (.istore 4, 2) := by decide +kernel
theorem dX7_countSteps_96 : decode cX7_countSteps 96 = .ok (.iinc 5 1, 3) := by decide +kernel
theorem dX7_countSteps_99 : decode cX7_countSteps 99 = .ok (.goto (-45), 3) := by decide +kernel
theorem dX7_countSteps_102 : decode cX7_countSteps 102 = .ok (.aload_n 0, 1) := by decide +kernel
theorem dX7_countSteps_103 : decode cX7_countSteps 103 = .ok (.getfield 51, 3) := by decide +kernel
theorem dX7_countSteps_106 : decode cX7_countSteps 106 = .ok (.iload_n 3, 1) := by decide +kernel
theorem dX7_countSteps_107 : decode cX7_countSteps 107 = .ok (.aload_n 0, 1) := by decide +kernel
theorem dX7_countSteps_108 : decode cX7_countSteps 108 = .ok (.getfield 51, 3) := by decide +kernel
theorem dX7_countSteps_111 : decode cX7_countSteps 111 = .ok (.iload_n 3, 1) := by decide +kernel
theorem dX7_countSteps_112 : decode cX7_countSteps 112 = .ok (.iaload, 1) := by decide +kernel
theorem dX7_countSteps_113 : decode cX7_countSteps 113 = .ok (.ifCond .ge 12, 3) := by decide +kernel
theorem dX7_countSteps_116 : decode cX7_countSteps 116 = .ok (.iload 4, 2) := by decide +kernel
theorem dX7_countSteps_118 : decode cX7_countSteps 118 = .ok (.ifCond .eq 7, 3) := by decide +kernel
theorem dX7_countSteps_121 : decode cX7_countSteps 121 = .ok (.iload_n 2, 1) := by decide +kernel
theorem dX7_countSteps_122 : decode cX7_countSteps 122 = .ok (.goto 9, 3) := by decide +kernel
theorem dX7_countSteps_125 : decode cX7_countSteps 125 = .ok (.aload_n 0, 1) := by decide +kernel
theorem dX7_countSteps_126 : decode cX7_countSteps 126 = .ok (.getfield 51, 3) := by decide +kernel
theorem dX7_countSteps_129 : decode cX7_countSteps 129 = .ok (.iload_n 3, 1) := by decide +kernel
theorem dX7_countSteps_130 : decode cX7_countSteps 130 = .ok (.iaload, 1) := by decide +kernel
theorem dX7_countSteps_131 : decode cX7_countSteps 131 = .ok (.iastore, 1) := by decide +kernel
theorem dX7_countSteps_132 : decode cX7_countSteps 132 = .ok (.iinc 3 1, 3) := by decide +kernel
theorem dX7_countSteps_135 : decode cX7_countSteps 135 = .ok (.goto (-95), 3) := by decide +kernel
theorem dX7_countSteps_138 : decode cX7_countSteps 138 = .ok (.iinc 2 1, 3) := by decide +kernel
theorem dX7_countSteps_141 : decode cX7_countSteps 141 = .ok (.goto (-109), 3) := by decide +kernel
theorem dX7_countSteps_144 : decode cX7_countSteps 144 = .ok (.return_, 1) := by decide +kernel
theorem dX7_tellRing_0 : decode cX7_tellRing 0 = .ok (.aload_n 0, 1) := by decide +kernel
theorem dX7_tellRing_1 : decode cX7_tellRing 1 = .ok (.iconst 1, 1) := by decide +kernel
theorem dX7_tellRing_2 : decode cX7_tellRing 2 = .ok (.putfield 108, 3) := by decide +kernel
theorem dX7_tellRing_5 : decode cX7_tellRing 5 = .ok (.aload_n 0, 1) := by decide +kernel
theorem dX7_tellRing_6 : decode cX7_tellRing 6 = .ok (.getfield 45, 3) := by decide +kernel
theorem dX7_tellRing_9 : decode cX7_tellRing 9 = .ok (.iconst 0, 1) := by decide +kernel
theorem dX7_tellRing_10 : decode cX7_tellRing 10 = .ok (.iload_n 1, 1) := by decide +kernel
theorem dX7_tellRing_11 : decode cX7_tellRing 11 = .ok (.iastore, 1) := by decide +kernel
theorem dX7_tellRing_12 : decode cX7_tellRing 12 = .ok (.iload_n 2, 1) := by decide +kernel
theorem dX7_tellRing_13 : decode cX7_tellRing 13 = .ok (.istore_n 3, 1) := by decide +kernel
theorem dX7_tellRing_14 : decode cX7_tellRing 14 = .ok (.iload_n 3, 1) := by decide +kernel
theorem dX7_tellRing_15 : decode cX7_tellRing 15 = .ok (.iload_n 1, 1) := by decide +kernel
theorem dX7_tellRing_16 : decode cX7_tellRing 16 = .ok (.if_icmp .eq 66, 3) := by decide +kernel
theorem dX7_tellRing_19 : decode cX7_tellRing 19 = .ok (.aload_n 0, 1) := by decide +kernel
theorem dX7_tellRing_20 : decode cX7_tellRing 20 = .ok (.getfield 45, 3) := by decide +kernel
theorem dX7_tellRing_23 : decode cX7_tellRing 23 = .ok (.aload_n 0, 1) := by decide +kernel
theorem dX7_tellRing_24 : decode cX7_tellRing 24 = .ok (.getfield 108, 3) := by decide +kernel
theorem dX7_tellRing_27 : decode cX7_tellRing 27 = .ok (.iload_n 3, 1) := by decide +kernel
theorem dX7_tellRing_28 : decode cX7_tellRing 28 = .ok (.iastore, 1) := by decide +kernel
theorem dX7_tellRing_29 : decode cX7_tellRing 29 = .ok (.aload_n 0, 1) := by decide +kernel
theorem dX7_tellRing_30 : decode cX7_tellRing 30 = .ok (.dup, 1) := by decide +kernel
theorem dX7_tellRing_31 : decode cX7_tellRing 31 = .ok (.getfield 108, 3) := by decide +kernel
theorem dX7_tellRing_34 : decode cX7_tellRing 34 = .ok (.iconst 1, 1) := by decide +kernel
theorem dX7_tellRing_35 : decode cX7_tellRing 35 = .ok (.iadd, 1) := by decide +kernel
theorem dX7_tellRing_36 : decode cX7_tellRing 36 = .ok (.putfield 108, 3) := by decide +kernel
theorem dX7_tellRing_39 : decode cX7_tellRing 39 = .ok (.iconst 0, 1) := by decide +kernel
theorem dX7_tellRing_40 : decode cX7_tellRing 40 = .ok (.istore 4, 2) := by decide +kernel
theorem dX7_tellRing_42 : decode cX7_tellRing 42 = .ok (.aload_n 0, 1) := by decide +kernel
theorem dX7_tellRing_43 : decode cX7_tellRing 43 = .ok (.getfield 51, 3) := by decide +kernel
theorem dX7_tellRing_46 : decode cX7_tellRing 46 = .ok (.iload 4, 2) := by decide +kernel
theorem dX7_tellRing_48 : decode cX7_tellRing 48 = .ok (.iaload, 1) := by decide +kernel
theorem dX7_tellRing_49 : decode cX7_tellRing 49 = .ok (.aload_n 0, 1) := by decide +kernel
theorem dX7_tellRing_50 : decode cX7_tellRing 50 = .ok (.getfield 51, 3) := by decide +kernel
theorem dX7_tellRing_53 : decode cX7_tellRing 53 = .ok (.iload_n 3, 1) := by decide +kernel
theorem dX7_tellRing_54 : decode cX7_tellRing 54 = .ok (.iaload, 1) := by decide +kernel
theorem dX7_tellRing_55 : decode cX7_tellRing 55 = .ok (.iconst 1, 1) := by decide +kernel
theorem dX7_tellRing_56 : decode cX7_tellRing 56 = .ok (.isub, 1) := by decide +kernel
theorem dX7_tellRing_57 : decode cX7_tellRing 57 = .ok (.if_icmp .ne 13, 3) := by decide +kernel
theorem dX7_tellRing_60 : decode cX7_tellRing 60 = .ok (.aload_n 0, 1) := by decide +kernel
theorem dX7_tellRing_61 : decode cX7_tellRing 61 = .ok (.iload_n 3, 1) := by decide +kernel
theorem dX7_tellRing_62 : decode cX7_tellRing 62 = .ok (.iload 4, 2) := by decide +kernel
theorem dX7_tellRing_64 : decode cX7_tellRing 64 = .ok (.invokevirtual 105, 3) := by decide +kernel
theorem dX7_tellRing_67 : decode cX7_tellRing 67 = .ok (.ifCond .ne 9, 3) := by decide +kernel
theorem dX7_tellRing_70 : decode cX7_tellRing 70 = .ok (.iinc 4 1, 3) := by decide +kernel
theorem dX7_tellRing_73 : decode cX7_tellRing 73 = .ok (.goto (-31), 3) := by decide +kernel
theorem dX7_tellRing_76 : decode cX7_tellRing 76 = .ok (.iload 4, 2) := by decide +kernel
theorem dX7_tellRing_78 : decode cX7_tellRing 78 = .ok (.istore_n 3, 1) := by decide +kernel
theorem dX7_tellRing_79 : decode cX7_tellRing 79 = .ok (.goto (-65), 3) := by decide +kernel
theorem dX7_tellRing_82 : decode cX7_tellRing 82 = .ok (.return_, 1) := by decide +kernel
theorem dX7_need_0 : decode cX7_need 0 = .ok (.aload_n 0, 1) := by decide +kernel
theorem dX7_need_1 : decode cX7_need 1 = .ok (.iload_n 1, 1) := by decide +kernel
theorem dX7_need_2 : decode cX7_need 2 = .ok (.invokevirtual 101, 3) := by decide +kernel
theorem dX7_need_5 : decode cX7_need 5 = .ok (.ifCond .eq 23, 3) := by decide +kernel
theorem dX7_need_8 : decode cX7_need 8 = .ok (.iload_n 3, 1) := by decide +kernel
theorem dX7_need_9 : decode cX7_need 9 = .ok (.iconst (-1), 1) := by decide +kernel
theorem dX7_need_10 : decode cX7_need 10 = .ok (.if_icmp .eq 11, 3) := by decide +kernel
theorem dX7_need_13 : decode cX7_need 13 = .ok (.aload_n 0, 1) := by decide +kernel
theorem dX7_need_14 : decode cX7_need 14 = .ok (.iload_n 3, 1) := by decide +kernel
theorem dX7_need_15 : decode cX7_need 15 = .ok (.invokevirtual 101, 3) := by decide +kernel
theorem dX7_need_18 : decode cX7_need 18 = .ok (.ifCond .eq 10, 3) := by decide +kernel
theorem dX7_need_21 : decode cX7_need 21 = .ok (.aload_n 0, 1) := by decide +kernel
theorem dX7_need_22 : decode cX7_need 22 = .ok (.getfield 95, 3) := by decide +kernel
theorem dX7_need_25 : decode cX7_need 25 = .ok (.ifCond .eq 6, 3) := by decide +kernel
theorem dX7_need_28 : decode cX7_need 28 = .ok (.bipush (-2), 2) := by decide +kernel
theorem dX7_need_30 : decode cX7_need 30 = .ok (.ireturn, 1) := by decide +kernel
theorem dX7_need_31 : decode cX7_need 31 = .ok (.aload_n 0, 1) := by decide +kernel
theorem dX7_need_32 : decode cX7_need 32 = .ok (.getfield 16, 3) := by decide +kernel
theorem dX7_need_35 : decode cX7_need 35 = .ok (.iload_n 1, 1) := by decide +kernel
theorem dX7_need_36 : decode cX7_need 36 = .ok (.iaload, 1) := by decide +kernel
theorem dX7_need_37 : decode cX7_need 37 = .ok (.ifCond .ge 6, 3) := by decide +kernel
theorem dX7_need_40 : decode cX7_need 40 = .ok (.bipush (-10), 2) := by decide +kernel
theorem dX7_need_42 : decode cX7_need 42 = .ok (.ireturn, 1) := by decide +kernel
theorem dX7_need_43 : decode cX7_need 43 = .ok (.iload_n 2, 1) := by decide +kernel
theorem dX7_need_44 : decode cX7_need 44 = .ok (.ifCond .lt 13, 3) := by decide +kernel
theorem dX7_need_47 : decode cX7_need 47 = .ok (.iload_n 2, 1) := by decide +kernel
theorem dX7_need_48 : decode cX7_need 48 = .ok (.aload_n 0, 1) := by decide +kernel
theorem dX7_need_49 : decode cX7_need 49 = .ok (.getfield 16, 3) := by decide +kernel
theorem dX7_need_52 : decode cX7_need 52 = .ok (.iload_n 1, 1) := by decide +kernel
theorem dX7_need_53 : decode cX7_need 53 = .ok (.iaload, 1) := by decide +kernel
theorem dX7_need_54 : decode cX7_need 54 = .ok (.if_icmp .lt 6, 3) := by decide +kernel
theorem dX7_need_57 : decode cX7_need 57 = .ok (.bipush (-11), 2) := by decide +kernel
theorem dX7_need_59 : decode cX7_need 59 = .ok (.ireturn, 1) := by decide +kernel
theorem dX7_need_60 : decode cX7_need 60 = .ok (.aload_n 0, 1) := by decide +kernel
theorem dX7_need_61 : decode cX7_need 61 = .ok (.iload_n 1, 1) := by decide +kernel
theorem dX7_need_62 : decode cX7_need 62 = .ok (.invokevirtual 111, 3) := by decide +kernel
theorem dX7_need_65 : decode cX7_need 65 = .ok (.iload_n 3, 1) := by decide +kernel
theorem dX7_need_66 : decode cX7_need 66 = .ok (.ifCond .lt 21, 3) := by decide +kernel
theorem dX7_need_69 : decode cX7_need 69 = .ok (.aload_n 0, 1) := by decide +kernel
theorem dX7_need_70 : decode cX7_need 70 = .ok (.getfield 51, 3) := by decide +kernel
theorem dX7_need_73 : decode cX7_need 73 = .ok (.iload_n 3, 1) := by decide +kernel
theorem dX7_need_74 : decode cX7_need 74 = .ok (.iaload, 1) := by decide +kernel
theorem dX7_need_75 : decode cX7_need 75 = .ok (.ifCond .lt 12, 3) := by decide +kernel
theorem dX7_need_78 : decode cX7_need 78 = .ok (.aload_n 0, 1) := by decide +kernel
theorem dX7_need_79 : decode cX7_need 79 = .ok (.iload_n 1, 1) := by decide +kernel
theorem dX7_need_80 : decode cX7_need 80 = .ok (.iload_n 3, 1) := by decide +kernel
theorem dX7_need_81 : decode cX7_need 81 = .ok (.invokevirtual 115, 3) := by decide +kernel
theorem dX7_need_84 : decode cX7_need 84 = .ok (.bipush (-3), 2) := by decide +kernel
theorem dX7_need_86 : decode cX7_need 86 = .ok (.ireturn, 1) := by decide +kernel
theorem dX7_need_87 : decode cX7_need 87 = .ok (.aload_n 0, 1) := by decide +kernel
theorem dX7_need_88 : decode cX7_need 88 = .ok (.getfield 19, 3) := by decide +kernel
theorem dX7_need_91 : decode cX7_need 91 = .ok (.iconst 4, 1) := by decide +kernel
theorem dX7_need_92 : decode cX7_need 92 = .ok (.iload_n 1, 1) := by decide +kernel
theorem dX7_need_93 : decode cX7_need 93 = .ok (.imul, 1) := by decide +kernel
theorem dX7_need_94 : decode cX7_need 94 = .ok (.iload_n 2, 1) := by decide +kernel
theorem dX7_need_95 : decode cX7_need 95 = .ok (.iadd, 1) := by decide +kernel
theorem dX7_need_96 : decode cX7_need 96 = .ok (.iaload, 1) := by decide +kernel
theorem dX7_need_97 : decode cX7_need 97 = .ok (.istore 4, 2) := by decide +kernel
theorem dX7_need_99 : decode cX7_need 99 = .ok (.aload_n 0, 1) := by decide +kernel
theorem dX7_need_100 : decode cX7_need 100 = .ok (.getfield 19, 3) := by decide +kernel
theorem dX7_need_103 : decode cX7_need 103 = .ok (.iconst 4, 1) := by decide +kernel
theorem dX7_need_104 : decode cX7_need 104 = .ok (.iload_n 1, 1) := by decide +kernel
theorem dX7_need_105 : decode cX7_need 105 = .ok (.imul, 1) := by decide +kernel
theorem dX7_need_106 : decode cX7_need 106 = .ok (.iload_n 2, 1) := by decide +kernel
theorem dX7_need_107 : decode cX7_need 107 = .ok (.iadd, 1) := by decide +kernel
theorem dX7_need_108 : decode cX7_need 108 = .ok (.iload_n 3, 1) := by decide +kernel
theorem dX7_need_109 : decode cX7_need 109 = .ok (.iastore, 1) := by decide +kernel
theorem dX7_need_110 : decode cX7_need 110 = .ok (.aload_n 0, 1) := by decide +kernel
theorem dX7_need_111 : decode cX7_need 111 = .ok (.iconst 0, 1) := by decide +kernel
theorem dX7_need_112 : decode cX7_need 112 = .ok (.putfield 92, 3) := by decide +kernel
theorem dX7_need_115 : decode cX7_need 115 = .ok (.iload 4, 2) := by decide +kernel
theorem dX7_need_117 : decode cX7_need 117 = .ok (.ireturn, 1) := by decide +kernel
theorem dX7_named_0 : decode cX7_named 0 = .ok (.aload_n 0, 1) := by decide +kernel
theorem dX7_named_1 : decode cX7_named 1 = .ok (.iload_n 1, 1) := by decide +kernel
theorem dX7_named_2 : decode cX7_named 2 = .ok (.invokevirtual 101, 3) := by decide +kernel
theorem dX7_named_5 : decode cX7_named 5 = .ok (.ifCond .eq 12, 3) := by decide +kernel
theorem dX7_named_8 : decode cX7_named 8 = .ok (.iload_n 2, 1) := by decide +kernel
theorem dX7_named_9 : decode cX7_named 9 = .ok (.ifCond .lt 8, 3) := by decide +kernel
theorem dX7_named_12 : decode cX7_named 12 = .ok (.iload_n 2, 1) := by decide +kernel
theorem dX7_named_13 : decode cX7_named 13 = .ok (.iconst 2, 1) := by decide +kernel
theorem dX7_named_14 : decode cX7_named 14 = .ok (.if_icmp .le 6, 3) := by decide +kernel
theorem dX7_named_17 : decode cX7_named 17 = .ok (.bipush (-2), 2) := by decide +kernel
theorem dX7_named_19 : decode cX7_named 19 = .ok (.ireturn, 1) := by decide +kernel
theorem dX7_named_20 : decode cX7_named 20 = .ok (.aload_n 0, 1) := by decide +kernel
theorem dX7_named_21 : decode cX7_named 21 = .ok (.getfield 16, 3) := by decide +kernel
theorem dX7_named_24 : decode cX7_named 24 = .ok (.iload_n 1, 1) := by decide +kernel
theorem dX7_named_25 : decode cX7_named 25 = .ok (.iaload, 1) := by decide +kernel
theorem dX7_named_26 : decode cX7_named 26 = .ok (.ifCond .ge 6, 3) := by decide +kernel
theorem dX7_named_29 : decode cX7_named 29 = .ok (.bipush (-10), 2) := by decide +kernel
theorem dX7_named_31 : decode cX7_named 31 = .ok (.ireturn, 1) := by decide +kernel
theorem dX7_named_32 : decode cX7_named 32 = .ok (.aload_n 0, 1) := by decide +kernel
theorem dX7_named_33 : decode cX7_named 33 = .ok (.getfield 13, 3) := by decide +kernel
theorem dX7_named_36 : decode cX7_named 36 = .ok (.iload_n 1, 1) := by decide +kernel
theorem dX7_named_37 : decode cX7_named 37 = .ok (.iaload, 1) := by decide +kernel
theorem dX7_named_38 : decode cX7_named 38 = .ok (.iload_n 2, 1) := by decide +kernel
theorem dX7_named_39 : decode cX7_named 39 = .ok (.if_icmp .eq 6, 3) := by decide +kernel
theorem dX7_named_42 : decode cX7_named 42 = .ok (.bipush (-12), 2) := by decide +kernel
theorem dX7_named_44 : decode cX7_named 44 = .ok (.ireturn, 1) := by decide +kernel
theorem dX7_named_45 : decode cX7_named 45 = .ok (.iload_n 3, 1) := by decide +kernel
theorem dX7_named_46 : decode cX7_named 46 = .ok (.ifCond .lt 13, 3) := by decide +kernel
theorem dX7_named_49 : decode cX7_named 49 = .ok (.iload_n 3, 1) := by decide +kernel
theorem dX7_named_50 : decode cX7_named 50 = .ok (.aload_n 0, 1) := by decide +kernel
theorem dX7_named_51 : decode cX7_named 51 = .ok (.getfield 16, 3) := by decide +kernel
theorem dX7_named_54 : decode cX7_named 54 = .ok (.iload_n 1, 1) := by decide +kernel
theorem dX7_named_55 : decode cX7_named 55 = .ok (.iaload, 1) := by decide +kernel
theorem dX7_named_56 : decode cX7_named 56 = .ok (.if_icmp .lt 8, 3) := by decide +kernel
theorem dX7_named_59 : decode cX7_named 59 = .ok (.bipush (-11), 2) := by decide +kernel
theorem dX7_named_61 : decode cX7_named 61 = .ok (.goto 13, 3) := by decide +kernel
theorem dX7_named_64 : decode cX7_named 64 = .ok (.aload_n 0, 1) := by decide +kernel
theorem dX7_named_65 : decode cX7_named 65 = .ok (.getfield 19, 3) := by decide +kernel
theorem dX7_named_68 : decode cX7_named 68 = .ok (.iconst 4, 1) := by decide +kernel
theorem dX7_named_69 : decode cX7_named 69 = .ok (.iload_n 1, 1) := by decide +kernel
theorem dX7_named_70 : decode cX7_named 70 = .ok (.imul, 1) := by decide +kernel
theorem dX7_named_71 : decode cX7_named 71 = .ok (.iload_n 3, 1) := by decide +kernel
theorem dX7_named_72 : decode cX7_named 72 = .ok (.iadd, 1) := by decide +kernel
theorem dX7_named_73 : decode cX7_named 73 = .ok (.iaload, 1) := by decide +kernel
theorem dX7_named_74 : decode cX7_named 74 = .ok (.ireturn, 1) := by decide +kernel
theorem dX7_ring_0 : decode cX7_ring 0 = .ok (.iload_n 1, 1) := by decide +kernel
theorem dX7_ring_1 : decode cX7_ring 1 = .ok (.ifCond .lt 11, 3) := by decide +kernel
theorem dX7_ring_4 : decode cX7_ring 4 = .ok (.iload_n 1, 1) := by decide +kernel
theorem dX7_ring_5 : decode cX7_ring 5 = .ok (.aload_n 0, 1) := by decide +kernel
theorem dX7_ring_6 : decode cX7_ring 6 = .ok (.getfield 108, 3) := by decide +kernel
theorem dX7_ring_9 : decode cX7_ring 9 = .ok (.if_icmp .lt 7, 3) := by decide +kernel
theorem dX7_ring_12 : decode cX7_ring 12 = .ok (.iconst (-1), 1) := by decide +kernel
theorem dX7_ring_13 : decode cX7_ring 13 = .ok (.goto 9, 3) := by decide +kernel
theorem dX7_ring_16 : decode cX7_ring 16 = .ok (.aload_n 0, 1) := by decide +kernel
theorem dX7_ring_17 : decode cX7_ring 17 = .ok (.getfield 45, 3) := by decide +kernel
theorem dX7_ring_20 : decode cX7_ring 20 = .ok (.iload_n 1, 1) := by decide +kernel
theorem dX7_ring_21 : decode cX7_ring 21 = .ok (.iaload, 1) := by decide +kernel
theorem dX7_ring_22 : decode cX7_ring 22 = .ok (.ireturn, 1) := by decide +kernel
theorem dX7_order_0 : decode cX7_order 0 = .ok (.iconst 0, 1) := by decide +kernel
theorem dX7_order_1 : decode cX7_order 1 = .ok (.istore_n 2, 1) := by decide +kernel
theorem dX7_order_2 : decode cX7_order 2 = .ok (.iconst 0, 1) := by decide +kernel
theorem dX7_order_3 : decode cX7_order 3 = .ok (.istore_n 3, 1) := by decide +kernel
theorem dX7_order_4 : decode cX7_order 4 = .ok (.iconst 0, 1) := by decide +kernel
theorem dX7_order_5 : decode cX7_order 5 = .ok (.istore 4, 2) := by decide +kernel
theorem dX7_order_7 : decode cX7_order 7 = .ok (.iload 4, 2) := by decide +kernel
theorem dX7_order_9 : decode cX7_order 9 = .ok (.ifCond .lt 158, 3) := by decide +kernel
theorem dX7_order_12 : decode cX7_order 12 = .ok (.iload_n 1, 1) := by decide +kernel
theorem dX7_order_13 : decode cX7_order 13 = .ok (.ifCond .lt 154, 3) := by decide +kernel
theorem dX7_order_16 : decode cX7_order 16 = .ok (.iconst (-1), 1) := by decide +kernel
theorem dX7_order_17 : decode cX7_order 17 = .ok (.istore 4, 2) := by decide +kernel
theorem dX7_order_19 : decode cX7_order 19 = .ok (.aload_n 0, 1) := by decide +kernel
theorem dX7_order_20 : decode cX7_order 20 = .ok (.getfield 73, 3) := by decide +kernel
theorem dX7_order_23 : decode cX7_order 23 = .ok (.iconst 1, 1) := by decide +kernel
theorem dX7_order_24 : decode cX7_order 24 = .ok (.isub, 1) := by decide +kernel
theorem dX7_order_25 : decode cX7_order 25 = .ok (.istore 5, 2) := by decide +kernel
theorem dX7_order_27 : decode cX7_order 27 = .ok (.iload 5, 2) := by decide +kernel
theorem dX7_order_29 : decode cX7_order 29 = .ok (.ifCond .lt 108, 3) := by decide +kernel
theorem dX7_order_32 : decode cX7_order 32 = .ok (.aload_n 0, 1) := by decide +kernel
theorem dX7_order_33 : decode cX7_order 33 = .ok (.getfield 16, 3) := by decide +kernel
theorem dX7_order_36 : decode cX7_order 36 = .ok (.iload 5, 2) := by decide +kernel
theorem dX7_order_38 : decode cX7_order 38 = .ok (.iaload, 1) := by decide +kernel
theorem dX7_order_39 : decode cX7_order 39 = .ok (.ifCond .lt 16, 3) := by decide +kernel
theorem dX7_order_42 : decode cX7_order 42 = .ok (.iload_n 2, 1) := by decide +kernel
theorem dX7_order_43 : decode cX7_order 43 = .ok (.iload 5, 2) := by decide +kernel
theorem dX7_order_45 : decode cX7_order 45 = .ok (.invokestatic 76, 3) := by decide +kernel
theorem dX7_order_48 : decode cX7_order 48 = .ok (.ifCond .ne 7, 3) := by decide +kernel
theorem dX7_order_51 : decode cX7_order 51 = .ok (.iconst 1, 1) := by decide +kernel
theorem dX7_order_52 : decode cX7_order 52 = .ok (.goto 4, 3) := by decide +kernel
theorem dX7_order_55 : decode cX7_order 55 = .ok (.iconst 0, 1) := by decide +kernel
theorem dX7_order_56 : decode cX7_order 56 = .ok (.istore 6, 2) := by decide +kernel
theorem dX7_order_58 : decode cX7_order 58 = .ok (.iconst 0, 1) := by decide +kernel
theorem dX7_order_59 : decode cX7_order 59 = .ok (.istore 7, 2) := by decide +kernel
theorem dX7_order_61 : decode cX7_order 61 = .ok (.iload 7, 2) := by decide +kernel
theorem dX7_order_63 : decode cX7_order 63 = .ok (.aload_n 0, 1) := by decide +kernel
theorem dX7_order_64 : decode cX7_order 64 = .ok (.getfield 16, 3) := by decide +kernel
theorem dX7_order_67 : decode cX7_order 67 = .ok (.iload 5, 2) := by decide +kernel
theorem dX7_order_69 : decode cX7_order 69 = .ok (.iaload, 1) := by decide +kernel
theorem dX7_order_70 : decode cX7_order 70 = .ok (.if_icmp .ge 47, 3) := by decide +kernel
theorem dX7_order_73 : decode cX7_order 73 = .ok (.aload_n 0, 1) := by decide +kernel
theorem dX7_order_74 : decode cX7_order 74 = .ok (.getfield 19, 3) := by decide +kernel
theorem dX7_order_77 : decode cX7_order 77 = .ok (.iconst 4, 1) := by decide +kernel
theorem dX7_order_78 : decode cX7_order 78 = .ok (.iload 5, 2) := by decide +kernel
theorem dX7_order_80 : decode cX7_order 80 = .ok (.imul, 1) := by decide +kernel
theorem dX7_order_81 : decode cX7_order 81 = .ok (.iload 7, 2) := by decide +kernel
theorem dX7_order_83 : decode cX7_order 83 = .ok (.iadd, 1) := by decide +kernel
theorem dX7_order_84 : decode cX7_order 84 = .ok (.iaload, 1) := by decide +kernel
theorem dX7_order_85 : decode cX7_order 85 = .ok (.istore 8, 2) := by decide +kernel
theorem dX7_order_87 : decode cX7_order 87 = .ok (.iload 6, 2) := by decide +kernel
theorem dX7_order_89 : decode cX7_order 89 = .ok (.iload 8, 2) := by decide +kernel
theorem dX7_order_91 : decode cX7_order 91 = .ok (.ifCond .lt 12, 3) := by decide +kernel
theorem dX7_order_94 : decode cX7_order 94 = .ok (.iload_n 2, 1) := by decide +kernel
theorem dX7_order_95 : decode cX7_order 95 = .ok (.iload 8, 2) := by decide +kernel
theorem dX7_order_97 : decode cX7_order 97 = .ok (.invokestatic 76, 3) := by decide +kernel
theorem dX7_order_100 : decode cX7_order 100 = .ok (.ifCond .eq 7, 3) := by decide +kernel
theorem dX7_order_103 : decode cX7_order 103 = .ok (.iconst 1, 1) := by decide +kernel
theorem dX7_order_104 : decode cX7_order 104 = .ok (.goto 4, 3) := by decide +kernel
theorem dX7_order_107 : decode cX7_order 107 = .ok (.iconst 0, 1) := by decide +kernel
theorem dX7_order_108 : decode cX7_order 108 = .ok (.iand, 1) := by decide +kernel
theorem dX7_order_109 : decode cX7_order 109 = .ok (.istore 6, 2) := by decide +kernel
theorem dX7_order_111 : decode cX7_order 111 = .ok (.iinc 7 1, 3) := by decide +kernel
theorem dX7_order_114 : decode cX7_order 114 = .ok (.goto (-53), 3) := by decide +kernel
theorem dX7_order_117 : decode cX7_order 117 = .ok (.iload 6, 2) := by decide +kernel
theorem dX7_order_119 : decode cX7_order 119 = .ok (.ifCond .eq 8, 3) := by decide +kernel
theorem dX7_order_122 : decode cX7_order 122 = .ok (.iload 5, 2) := by decide +kernel
theorem dX7_order_124 : decode cX7_order 124 = .ok (.goto 5, 3) := by decide +kernel
theorem dX7_order_127 : decode cX7_order 127 = .ok (.iload 4, 2) := by decide +kernel
theorem dX7_order_129 : decode cX7_order 129 = .ok (.istore 4, 2) := by decide +kernel
theorem dX7_order_131 : decode cX7_order 131 = .ok (.iinc 5 (-1), 3) := by decide +kernel
theorem dX7_order_134 : decode cX7_order 134 = .ok (.goto (-107), 3) := by decide +kernel
theorem dX7_order_137 : decode cX7_order 137 = .ok (.iload_n 3, 1) := by decide +kernel
theorem dX7_order_138 : decode cX7_order 138 = .ok (.iload_n 1, 1) := by decide +kernel
theorem dX7_order_139 : decode cX7_order 139 = .ok (.if_icmp .ne 6, 3) := by decide +kernel
theorem dX7_order_142 : decode cX7_order 142 = .ok (.iload 4, 2) := by decide +kernel
theorem dX7_order_144 : decode cX7_order 144 = .ok (.ireturn, 1) := by decide +kernel
theorem dX7_order_145 : decode cX7_order 145 = .ok (.iinc 3 1, 3) := by decide +kernel
theorem dX7_order_148 : decode cX7_order 148 = .ok (.iload_n 2, 1) := by decide +kernel
theorem dX7_order_149 : decode cX7_order 149 = .ok (.iload 4, 2) := by decide +kernel
theorem dX7_order_151 : decode cX7_order 151 = .ok (.ifCond .ge 7, 3) := by decide +kernel
theorem dX7_order_154 : decode cX7_order 154 = .ok (.iconst 0, 1) := by decide +kernel
theorem dX7_order_155 : decode cX7_order 155 = .ok (.goto 7, 3) := by decide +kernel
theorem dX7_order_158 : decode cX7_order 158 = .ok (.iconst 1, 1) := by decide +kernel
theorem dX7_order_159 : decode cX7_order 159 = .ok (.iload 4, 2) := by decide +kernel
theorem dX7_order_161 : decode cX7_order 161 = .ok (.ishl, 1) := by decide +kernel
theorem dX7_order_162 : decode cX7_order 162 = .ok (.ior, 1) := by decide +kernel
theorem dX7_order_163 : decode cX7_order 163 = .ok (.istore_n 2, 1) := by decide +kernel
theorem dX7_order_164 : decode cX7_order 164 = .ok (.goto (-157), 3) := by decide +kernel
theorem dX7_order_167 : decode cX7_order 167 = .ok (.iconst (-1), 1) := by decide +kernel
theorem dX7_order_168 : decode cX7_order 168 = .ok (.ireturn, 1) := by decide +kernel
theorem dX7_goal_0 : decode cX7_goal 0 = .ok (.aload_n 0, 1) := by decide +kernel
theorem dX7_goal_1 : decode cX7_goal 1 = .ok (.iload_n 1, 1) := by decide +kernel
theorem dX7_goal_2 : decode cX7_goal 2 = .ok (.invokevirtual 101, 3) := by decide +kernel
theorem dX7_goal_5 : decode cX7_goal 5 = .ok (.ifCond .eq 15, 3) := by decide +kernel
theorem dX7_goal_8 : decode cX7_goal 8 = .ok (.aload_n 0, 1) := by decide +kernel
theorem dX7_goal_9 : decode cX7_goal 9 = .ok (.getfield 119, 3) := by decide +kernel
theorem dX7_goal_12 : decode cX7_goal 12 = .ok (.iconst 3, 1) := by decide +kernel
theorem dX7_goal_13 : decode cX7_goal 13 = .ok (.if_icmp .ge 7, 3) := by decide +kernel
theorem dX7_goal_16 : decode cX7_goal 16 = .ok (.iconst 1, 1) := by decide +kernel
theorem dX7_goal_17 : decode cX7_goal 17 = .ok (.goto 4, 3) := by decide +kernel
theorem dX7_goal_20 : decode cX7_goal 20 = .ok (.iconst 0, 1) := by decide +kernel
theorem dX7_goal_21 : decode cX7_goal 21 = .ok (.istore_n 2, 1) := by decide +kernel
theorem dX7_goal_22 : decode cX7_goal 22 = .ok (.iconst 0, 1) := by decide +kernel
theorem dX7_goal_23 : decode cX7_goal 23 = .ok (.istore_n 3, 1) := by decide +kernel
theorem dX7_goal_24 : decode cX7_goal 24 = .ok (.iload_n 3, 1) := by decide +kernel
theorem dX7_goal_25 : decode cX7_goal 25 = .ok (.aload_n 0, 1) := by decide +kernel
theorem dX7_goal_26 : decode cX7_goal 26 = .ok (.getfield 119, 3) := by decide +kernel
theorem dX7_goal_29 : decode cX7_goal 29 = .ok (.if_icmp .ge 27, 3) := by decide +kernel
theorem dX7_goal_32 : decode cX7_goal 32 = .ok (.iload_n 2, 1) := by decide +kernel
theorem dX7_goal_33 : decode cX7_goal 33 = .ok (.aload_n 0, 1) := by decide +kernel
theorem dX7_goal_34 : decode cX7_goal 34 = .ok (.getfield 29, 3) := by decide +kernel
theorem dX7_goal_37 : decode cX7_goal 37 = .ok (.iload_n 3, 1) := by decide +kernel
theorem dX7_goal_38 : decode cX7_goal 38 = .ok (.iaload, 1) := by decide +kernel
theorem dX7_goal_39 : decode cX7_goal 39 = .ok (.iload_n 1, 1) := by decide +kernel
theorem dX7_goal_40 : decode cX7_goal 40 = .ok (.if_icmp .eq 7, 3) := by decide +kernel
theorem dX7_goal_43 : decode cX7_goal 43 = .ok (.iconst 1, 1) := by decide +kernel
theorem dX7_goal_44 : decode cX7_goal 44 = .ok (.goto 4, 3) := by decide +kernel
theorem dX7_goal_47 : decode cX7_goal 47 = .ok (.iconst 0, 1) := by decide +kernel
theorem dX7_goal_48 : decode cX7_goal 48 = .ok (.iand, 1) := by decide +kernel
theorem dX7_goal_49 : decode cX7_goal 49 = .ok (.istore_n 2, 1) := by decide +kernel
theorem dX7_goal_50 : decode cX7_goal 50 = .ok (.iinc 3 1, 3) := by decide +kernel
theorem dX7_goal_53 : decode cX7_goal 53 = .ok (.goto (-29), 3) := by decide +kernel
theorem dX7_goal_56 : decode cX7_goal 56 = .ok (.iload_n 2, 1) := by decide +kernel
theorem dX7_goal_57 : decode cX7_goal 57 = .ok (.ifCond .ne 6, 3) := by decide +kernel
theorem dX7_goal_60 : decode cX7_goal 60 = .ok (.bipush (-2), 2) := by decide +kernel
theorem dX7_goal_62 : decode cX7_goal 62 = .ok (.ireturn, 1) := by decide +kernel
theorem dX7_goal_63 : decode cX7_goal 63 = .ok (.aload_n 0, 1) := by decide +kernel
theorem dX7_goal_64 : decode cX7_goal 64 = .ok (.getfield 29, 3) := by decide +kernel
theorem dX7_goal_67 : decode cX7_goal 67 = .ok (.aload_n 0, 1) := by decide +kernel
theorem dX7_goal_68 : decode cX7_goal 68 = .ok (.getfield 119, 3) := by decide +kernel
theorem dX7_goal_71 : decode cX7_goal 71 = .ok (.iload_n 1, 1) := by decide +kernel
theorem dX7_goal_72 : decode cX7_goal 72 = .ok (.iastore, 1) := by decide +kernel
theorem dX7_goal_73 : decode cX7_goal 73 = .ok (.aload_n 0, 1) := by decide +kernel
theorem dX7_goal_74 : decode cX7_goal 74 = .ok (.dup, 1) := by decide +kernel
theorem dX7_goal_75 : decode cX7_goal 75 = .ok (.getfield 119, 3) := by decide +kernel
theorem dX7_goal_78 : decode cX7_goal 78 = .ok (.iconst 1, 1) := by decide +kernel
theorem dX7_goal_79 : decode cX7_goal 79 = .ok (.iadd, 1) := by decide +kernel
theorem dX7_goal_80 : decode cX7_goal 80 = .ok (.putfield 119, 3) := by decide +kernel
theorem dX7_goal_83 : decode cX7_goal 83 = .ok (.aload_n 0, 1) := by decide +kernel
theorem dX7_goal_84 : decode cX7_goal 84 = .ok (.getfield 119, 3) := by decide +kernel
theorem dX7_goal_87 : decode cX7_goal 87 = .ok (.ireturn, 1) := by decide +kernel
theorem dX7_forget_0 : decode cX7_forget 0 = .ok (.aload_n 0, 1) := by decide +kernel
theorem dX7_forget_1 : decode cX7_forget 1 = .ok (.getfield 119, 3) := by decide +kernel
theorem dX7_forget_4 : decode cX7_forget 4 = .ok (.istore_n 1, 1) := by decide +kernel
theorem dX7_forget_5 : decode cX7_forget 5 = .ok (.aload_n 0, 1) := by decide +kernel
theorem dX7_forget_6 : decode cX7_forget 6 = .ok (.iconst 0, 1) := by decide +kernel
theorem dX7_forget_7 : decode cX7_forget 7 = .ok (.putfield 119, 3) := by decide +kernel
theorem dX7_forget_10 : decode cX7_forget 10 = .ok (.iload_n 1, 1) := by decide +kernel
theorem dX7_forget_11 : decode cX7_forget 11 = .ok (.ireturn, 1) := by decide +kernel
theorem dX7_together_0 : decode cX7_together 0 = .ok (.aload_n 0, 1) := by decide +kernel
theorem dX7_together_1 : decode cX7_together 1 = .ok (.getfield 122, 3) := by decide +kernel
theorem dX7_together_4 : decode cX7_together 4 = .ok (.ifCond .eq 7, 3) := by decide +kernel
theorem dX7_together_7 : decode cX7_together 7 = .ok (.iconst 1, 1) := by decide +kernel
theorem dX7_together_8 : decode cX7_together 8 = .ok (.goto 4, 3) := by decide +kernel
theorem dX7_together_11 : decode cX7_together 11 = .ok (.iconst 0, 1) := by decide +kernel
theorem dX7_together_12 : decode cX7_together 12 = .ok (.istore_n 2, 1) := by decide +kernel
theorem dX7_together_13 : decode cX7_together 13 = .ok (.aload_n 0, 1) := by decide +kernel
theorem dX7_together_14 : decode cX7_together 14 = .ok (.iload_n 1, 1) := by decide +kernel
theorem dX7_together_15 : decode cX7_together 15 = .ok (.putfield 122, 3) := by decide +kernel
theorem dX7_together_18 : decode cX7_together 18 = .ok (.iload_n 2, 1) := by decide +kernel
theorem dX7_together_19 : decode cX7_together 19 = .ok (.ireturn, 1) := by decide +kernel
theorem dX7_why_0 : decode cX7_why 0 = .ok (.aload_n 0, 1) := by decide +kernel
theorem dX7_why_1 : decode cX7_why 1 = .ok (.iload_n 1, 1) := by decide +kernel
theorem dX7_why_2 : decode cX7_why 2 = .ok (.invokevirtual 101, 3) := by decide +kernel
theorem dX7_why_5 : decode cX7_why 5 = .ok (.ifCond .eq 23, 3) := by decide +kernel
theorem dX7_why_8 : decode cX7_why 8 = .ok (.aload_n 0, 1) := by decide +kernel
theorem dX7_why_9 : decode cX7_why 9 = .ok (.aload_n 0, 1) := by decide +kernel
theorem dX7_why_10 : decode cX7_why 10 = .ok (.getfield 95, 3) := by decide +kernel
theorem dX7_why_13 : decode cX7_why 13 = .ok (.aload_n 0, 1) := by decide +kernel
theorem dX7_why_14 : decode cX7_why 14 = .ok (.getfield 98, 3) := by decide +kernel
theorem dX7_why_17 : decode cX7_why 17 = .ok (.iload_n 1, 1) := by decide +kernel
theorem dX7_why_18 : decode cX7_why 18 = .ok (.aload_n 0, 1) := by decide +kernel
theorem dX7_why_19 : decode cX7_why 19 = .ok (.getfield 25, 3) := by decide +kernel
theorem dX7_why_22 : decode cX7_why 22 = .ok (.invokevirtual 126, 3) := by decide +kernel
theorem dX7_why_25 : decode cX7_why 25 = .ok (.goto 5, 3) := by decide +kernel
theorem dX7_why_28 : decode cX7_why 28 = .ok (.bipush (-2), 2) := by decide +kernel
theorem dX7_why_30 : decode cX7_why 30 = .ok (.ireturn, 1) := by decide +kernel
theorem dX7_make_0 : decode cX7_make 0 = .ok (.aload_n 0, 1) := by decide +kernel
theorem dX7_make_1 : decode cX7_make 1 = .ok (.iload_n 1, 1) := by decide +kernel
theorem dX7_make_2 : decode cX7_make 2 = .ok (.invokevirtual 101, 3) := by decide +kernel
theorem dX7_make_5 : decode cX7_make 5 = .ok (.ifCond .eq 23, 3) := by decide +kernel
theorem dX7_make_8 : decode cX7_make 8 = .ok (.aload_n 0, 1) := by decide +kernel
theorem dX7_make_9 : decode cX7_make 9 = .ok (.aload_n 0, 1) := by decide +kernel
theorem dX7_make_10 : decode cX7_make 10 = .ok (.getfield 95, 3) := by decide +kernel
theorem dX7_make_13 : decode cX7_make 13 = .ok (.aload_n 0, 1) := by decide +kernel
theorem dX7_make_14 : decode cX7_make 14 = .ok (.getfield 98, 3) := by decide +kernel
theorem dX7_make_17 : decode cX7_make 17 = .ok (.iload_n 1, 1) := by decide +kernel
theorem dX7_make_18 : decode cX7_make 18 = .ok (.aload_n 0, 1) := by decide +kernel
theorem dX7_make_19 : decode cX7_make 19 = .ok (.getfield 25, 3) := by decide +kernel
theorem dX7_make_22 : decode cX7_make 22 = .ok (.invokevirtual 126, 3) := by decide +kernel
theorem dX7_make_25 : decode cX7_make 25 = .ok (.ifCond .eq 6, 3) := by decide +kernel
theorem dX7_make_28 : decode cX7_make 28 = .ok (.bipush (-2), 2) := by decide +kernel
theorem dX7_make_30 : decode cX7_make 30 = .ok (.ireturn, 1) := by decide +kernel
theorem dX7_make_31 : decode cX7_make 31 = .ok (.aload_n 0, 1) := by decide +kernel
theorem dX7_make_32 : decode cX7_make 32 = .ok (.iload_n 1, 1) := by decide +kernel
theorem dX7_make_33 : decode cX7_make 33 = .ok (.invokevirtual 130, 3) := by decide +kernel
theorem dX7_make_36 : decode cX7_make 36 = .ok (.aload_n 0, 1) := by decide +kernel
theorem dX7_make_37 : decode cX7_make 37 = .ok (.aload_n 0, 1) := by decide +kernel
theorem dX7_make_38 : decode cX7_make 38 = .ok (.aload_n 0, 1) := by decide +kernel
theorem dX7_make_39 : decode cX7_make 39 = .ok (.getfield 95, 3) := by decide +kernel
theorem dX7_make_42 : decode cX7_make 42 = .ok (.iload_n 1, 1) := by decide +kernel
theorem dX7_make_43 : decode cX7_make 43 = .ok (.invokevirtual 133, 3) := by decide +kernel
theorem dX7_make_46 : decode cX7_make 46 = .ok (.putfield 95, 3) := by decide +kernel
theorem dX7_make_49 : decode cX7_make 49 = .ok (.aload_n 0, 1) := by decide +kernel
theorem dX7_make_50 : decode cX7_make 50 = .ok (.aload_n 0, 1) := by decide +kernel
theorem dX7_make_51 : decode cX7_make 51 = .ok (.iload_n 1, 1) := by decide +kernel
theorem dX7_make_52 : decode cX7_make 52 = .ok (.invokevirtual 136, 3) := by decide +kernel
theorem dX7_make_55 : decode cX7_make 55 = .ok (.putfield 98, 3) := by decide +kernel
theorem dX7_make_58 : decode cX7_make 58 = .ok (.aload_n 0, 1) := by decide +kernel
theorem dX7_make_59 : decode cX7_make 59 = .ok (.getfield 22, 3) := by decide +kernel
theorem dX7_make_62 : decode cX7_make 62 = .ok (.iload_n 1, 1) := by decide +kernel
theorem dX7_make_63 : decode cX7_make 63 = .ok (.dup2, 1) := by decide +kernel
theorem dX7_make_64 : decode cX7_make 64 = .ok (.iaload, 1) := by decide +kernel
theorem dX7_make_65 : decode cX7_make 65 = .ok (.iconst 1, 1) := by decide +kernel
theorem dX7_make_66 : decode cX7_make 66 = .ok (.iadd, 1) := by decide +kernel
theorem dX7_make_67 : decode cX7_make 67 = .ok (.iastore, 1) := by decide +kernel
theorem dX7_make_68 : decode cX7_make 68 = .ok (.aload_n 0, 1) := by decide +kernel
theorem dX7_make_69 : decode cX7_make 69 = .ok (.invokevirtual 139, 3) := by decide +kernel
theorem dX7_make_72 : decode cX7_make 72 = .ok (.ireturn, 1) := by decide +kernel
theorem dX7_pour_0 : decode cX7_pour 0 = .ok (.aload_n 0, 1) := by decide +kernel
theorem dX7_pour_1 : decode cX7_pour 1 = .ok (.iload_n 1, 1) := by decide +kernel
theorem dX7_pour_2 : decode cX7_pour 2 = .ok (.invokevirtual 101, 3) := by decide +kernel
theorem dX7_pour_5 : decode cX7_pour 5 = .ok (.ifCond .eq 14, 3) := by decide +kernel
theorem dX7_pour_8 : decode cX7_pour 8 = .ok (.aload_n 0, 1) := by decide +kernel
theorem dX7_pour_9 : decode cX7_pour 9 = .ok (.getfield 95, 3) := by decide +kernel
theorem dX7_pour_12 : decode cX7_pour 12 = .ok (.iload_n 1, 1) := by decide +kernel
theorem dX7_pour_13 : decode cX7_pour 13 = .ok (.invokestatic 76, 3) := by decide +kernel
theorem dX7_pour_16 : decode cX7_pour 16 = .ok (.ifCond .ne 6, 3) := by decide +kernel
theorem dX7_pour_19 : decode cX7_pour 19 = .ok (.bipush (-2), 2) := by decide +kernel
theorem dX7_pour_21 : decode cX7_pour 21 = .ok (.ireturn, 1) := by decide +kernel
theorem dX7_pour_22 : decode cX7_pour 22 = .ok (.aload_n 0, 1) := by decide +kernel
theorem dX7_pour_23 : decode cX7_pour 23 = .ok (.iconst (-1), 1) := by decide +kernel
theorem dX7_pour_24 : decode cX7_pour 24 = .ok (.invokevirtual 130, 3) := by decide +kernel
theorem dX7_pour_27 : decode cX7_pour 27 = .ok (.aload_n 0, 1) := by decide +kernel
theorem dX7_pour_28 : decode cX7_pour 28 = .ok (.dup, 1) := by decide +kernel
theorem dX7_pour_29 : decode cX7_pour 29 = .ok (.getfield 95, 3) := by decide +kernel
theorem dX7_pour_32 : decode cX7_pour 32 = .ok (.iconst 1, 1) := by decide +kernel
theorem dX7_pour_33 : decode cX7_pour 33 = .ok (.iload_n 1, 1) := by decide +kernel
theorem dX7_pour_34 : decode cX7_pour 34 = .ok (.ishl, 1) := by decide +kernel
theorem dX7_pour_35 : decode cX7_pour 35 = .ok (.iconst (-1), 1) := by decide +kernel
theorem dX7_pour_36 : decode cX7_pour 36 = .ok (.ixor, 1) := by decide +kernel
theorem dX7_pour_37 : decode cX7_pour 37 = .ok (.iand, 1) := by decide +kernel
theorem dX7_pour_38 : decode cX7_pour 38 = .ok (.putfield 95, 3) := by decide +kernel
theorem dX7_pour_41 : decode cX7_pour 41 = .ok (.aload_n 0, 1) := by decide +kernel
theorem dX7_pour_42 : decode cX7_pour 42 = .ok (.aload_n 0, 1) := by decide +kernel
theorem dX7_pour_43 : decode cX7_pour 43 = .ok (.getfield 98, 3) := by decide +kernel
theorem dX7_pour_46 : decode cX7_pour 46 = .ok (.iload_n 1, 1) := by decide +kernel
theorem dX7_pour_47 : decode cX7_pour 47 = .ok (.invokestatic 143, 3) := by decide +kernel
theorem dX7_pour_50 : decode cX7_pour 50 = .ok (.putfield 98, 3) := by decide +kernel
theorem dX7_pour_53 : decode cX7_pour 53 = .ok (.aload_n 0, 1) := by decide +kernel
theorem dX7_pour_54 : decode cX7_pour 54 = .ok (.invokevirtual 139, 3) := by decide +kernel
theorem dX7_pour_57 : decode cX7_pour 57 = .ok (.ireturn, 1) := by decide +kernel
theorem dX7_undo_0 : decode cX7_undo 0 = .ok (.aload_n 0, 1) := by decide +kernel
theorem dX7_undo_1 : decode cX7_undo 1 = .ok (.getfield 92, 3) := by decide +kernel
theorem dX7_undo_4 : decode cX7_undo 4 = .ok (.ifCond .ne 6, 3) := by decide +kernel
theorem dX7_undo_7 : decode cX7_undo 7 = .ok (.bipush (-2), 2) := by decide +kernel
theorem dX7_undo_9 : decode cX7_undo 9 = .ok (.ireturn, 1) := by decide +kernel
theorem dX7_undo_10 : decode cX7_undo 10 = .ok (.aload_n 0, 1) := by decide +kernel
theorem dX7_undo_11 : decode cX7_undo 11 = .ok (.dup, 1) := by decide +kernel
theorem dX7_undo_12 : decode cX7_undo 12 = .ok (.getfield 92, 3) := by decide +kernel
theorem dX7_undo_15 : decode cX7_undo 15 = .ok (.iconst 1, 1) := by decide +kernel
theorem dX7_undo_16 : decode cX7_undo 16 = .ok (.isub, 1) := by decide +kernel
theorem dX7_undo_17 : decode cX7_undo 17 = .ok (.putfield 92, 3) := by decide +kernel
theorem dX7_undo_20 : decode cX7_undo 20 = .ok (.aload_n 0, 1) := by decide +kernel
theorem dX7_undo_21 : decode cX7_undo 21 = .ok (.aload_n 0, 1) := by decide +kernel
theorem dX7_undo_22 : decode cX7_undo 22 = .ok (.getfield 36, 3) := by decide +kernel
theorem dX7_undo_25 : decode cX7_undo 25 = .ok (.aload_n 0, 1) := by decide +kernel
theorem dX7_undo_26 : decode cX7_undo 26 = .ok (.getfield 92, 3) := by decide +kernel
theorem dX7_undo_29 : decode cX7_undo 29 = .ok (.iaload, 1) := by decide +kernel
theorem dX7_undo_30 : decode cX7_undo 30 = .ok (.putfield 95, 3) := by decide +kernel
theorem dX7_undo_33 : decode cX7_undo 33 = .ok (.aload_n 0, 1) := by decide +kernel
theorem dX7_undo_34 : decode cX7_undo 34 = .ok (.aload_n 0, 1) := by decide +kernel
theorem dX7_undo_35 : decode cX7_undo 35 = .ok (.getfield 39, 3) := by decide +kernel
theorem dX7_undo_38 : decode cX7_undo 38 = .ok (.aload_n 0, 1) := by decide +kernel
theorem dX7_undo_39 : decode cX7_undo 39 = .ok (.getfield 92, 3) := by decide +kernel
theorem dX7_undo_42 : decode cX7_undo 42 = .ok (.iaload, 1) := by decide +kernel
theorem dX7_undo_43 : decode cX7_undo 43 = .ok (.putfield 98, 3) := by decide +kernel
theorem dX7_undo_46 : decode cX7_undo 46 = .ok (.aload_n 0, 1) := by decide +kernel
theorem dX7_undo_47 : decode cX7_undo 47 = .ok (.getfield 42, 3) := by decide +kernel
theorem dX7_undo_50 : decode cX7_undo 50 = .ok (.aload_n 0, 1) := by decide +kernel
theorem dX7_undo_51 : decode cX7_undo 51 = .ok (.getfield 92, 3) := by decide +kernel
theorem dX7_undo_54 : decode cX7_undo 54 = .ok (.iaload, 1) := by decide +kernel
theorem dX7_undo_55 : decode cX7_undo 55 = .ok (.ifCond .lt 21, 3) := by decide +kernel
theorem dX7_undo_58 : decode cX7_undo 58 = .ok (.aload_n 0, 1) := by decide +kernel
theorem dX7_undo_59 : decode cX7_undo 59 = .ok (.getfield 22, 3) := by decide +kernel
theorem dX7_undo_62 : decode cX7_undo 62 = .ok (.aload_n 0, 1) := by decide +kernel
theorem dX7_undo_63 : decode cX7_undo 63 = .ok (.getfield 42, 3) := by decide +kernel
theorem dX7_undo_66 : decode cX7_undo 66 = .ok (.aload_n 0, 1) := by decide +kernel
theorem dX7_undo_67 : decode cX7_undo 67 = .ok (.getfield 92, 3) := by decide +kernel
theorem dX7_undo_70 : decode cX7_undo 70 = .ok (.iaload, 1) := by decide +kernel
theorem dX7_undo_71 : decode cX7_undo 71 = .ok (.dup2, 1) := by decide +kernel
theorem dX7_undo_72 : decode cX7_undo 72 = .ok (.iaload, 1) := by decide +kernel
theorem dX7_undo_73 : decode cX7_undo 73 = .ok (.iconst 1, 1) := by decide +kernel
theorem dX7_undo_74 : decode cX7_undo 74 = .ok (.isub, 1) := by decide +kernel
theorem dX7_undo_75 : decode cX7_undo 75 = .ok (.iastore, 1) := by decide +kernel
theorem dX7_undo_76 : decode cX7_undo 76 = .ok (.aload_n 0, 1) := by decide +kernel
theorem dX7_undo_77 : decode cX7_undo 77 = .ok (.getfield 92, 3) := by decide +kernel
theorem dX7_undo_80 : decode cX7_undo 80 = .ok (.ireturn, 1) := by decide +kernel
theorem dX7_of_0 : decode cX7_of 0 = .ok (.aload_n 0, 1) := by decide +kernel
theorem dX7_of_1 : decode cX7_of 1 = .ok (.iload_n 1, 1) := by decide +kernel
theorem dX7_of_2 : decode cX7_of 2 = .ok (.invokevirtual 101, 3) := by decide +kernel
theorem dX7_of_5 : decode cX7_of 5 = .ok (.ifCond .ne 6, 3) := by decide +kernel
theorem dX7_of_8 : decode cX7_of 8 = .ok (.bipush (-2), 2) := by decide +kernel
theorem dX7_of_10 : decode cX7_of 10 = .ok (.ireturn, 1) := by decide +kernel
theorem dX7_of_11 : decode cX7_of 11 = .ok (.iload_n 2, 1) := by decide +kernel
theorem dX7_of_12 : decode cX7_of 12 = .ok (.tableswitch 170 0 6 #[44, 51, 68, 82, 89, 109, 116], 44) := by decide +kernel
theorem dX7_of_56 : decode cX7_of 56 = .ok (.aload_n 0, 1) := by decide +kernel
theorem dX7_of_57 : decode cX7_of 57 = .ok (.getfield 9, 3) := by decide +kernel
theorem dX7_of_60 : decode cX7_of 60 = .ok (.iload_n 1, 1) := by decide +kernel
theorem dX7_of_61 : decode cX7_of 61 = .ok (.iaload, 1) := by decide +kernel
theorem dX7_of_62 : decode cX7_of 62 = .ok (.ireturn, 1) := by decide +kernel
theorem dX7_of_63 : decode cX7_of 63 = .ok (.aload_n 0, 1) := by decide +kernel
theorem dX7_of_64 : decode cX7_of 64 = .ok (.getfield 95, 3) := by decide +kernel
theorem dX7_of_67 : decode cX7_of 67 = .ok (.iload_n 1, 1) := by decide +kernel
theorem dX7_of_68 : decode cX7_of 68 = .ok (.invokestatic 76, 3) := by decide +kernel
theorem dX7_of_71 : decode cX7_of 71 = .ok (.ifCond .eq 7, 3) := by decide +kernel
theorem dX7_of_74 : decode cX7_of 74 = .ok (.iconst 1, 1) := by decide +kernel
theorem dX7_of_75 : decode cX7_of 75 = .ok (.goto 4, 3) := by decide +kernel
theorem dX7_of_78 : decode cX7_of 78 = .ok (.iconst 0, 1) := by decide +kernel
theorem dX7_of_79 : decode cX7_of 79 = .ok (.ireturn, 1) := by decide +kernel
theorem dX7_of_80 : decode cX7_of 80 = .ok (.aload_n 0, 1) := by decide +kernel
theorem dX7_of_81 : decode cX7_of 81 = .ok (.aload_n 0, 1) := by decide +kernel
theorem dX7_of_82 : decode cX7_of 82 = .ok (.getfield 95, 3) := by decide +kernel
theorem dX7_of_85 : decode cX7_of 85 = .ok (.aload_n 0, 1) := by decide +kernel
theorem dX7_of_86 : decode cX7_of 86 = .ok (.getfield 98, 3) := by decide +kernel
theorem dX7_of_89 : decode cX7_of 89 = .ok (.iload_n 1, 1) := by decide +kernel
theorem dX7_of_90 : decode cX7_of 90 = .ok (.invokevirtual 80, 3) := by decide +kernel
theorem dX7_of_93 : decode cX7_of 93 = .ok (.ireturn, 1) := by decide +kernel
theorem dX7_of_94 : decode cX7_of 94 = .ok (.aload_n 0, 1) := by decide +kernel
theorem dX7_of_95 : decode cX7_of 95 = .ok (.getfield 16, 3) := by decide +kernel
theorem dX7_of_98 : decode cX7_of 98 = .ok (.iload_n 1, 1) := by decide +kernel
theorem dX7_of_99 : decode cX7_of 99 = .ok (.iaload, 1) := by decide +kernel
theorem dX7_of_100 : decode cX7_of 100 = .ok (.ireturn, 1) := by decide +kernel
theorem dX7_of_101 : decode cX7_of 101 = .ok (.aload_n 0, 1) := by decide +kernel
theorem dX7_of_102 : decode cX7_of 102 = .ok (.getfield 16, 3) := by decide +kernel
theorem dX7_of_105 : decode cX7_of 105 = .ok (.iload_n 1, 1) := by decide +kernel
theorem dX7_of_106 : decode cX7_of 106 = .ok (.iaload, 1) := by decide +kernel
theorem dX7_of_107 : decode cX7_of 107 = .ok (.ifCond .ge 7, 3) := by decide +kernel
theorem dX7_of_110 : decode cX7_of 110 = .ok (.iconst (-1), 1) := by decide +kernel
theorem dX7_of_111 : decode cX7_of 111 = .ok (.goto 9, 3) := by decide +kernel
theorem dX7_of_114 : decode cX7_of 114 = .ok (.aload_n 0, 1) := by decide +kernel
theorem dX7_of_115 : decode cX7_of 115 = .ok (.getfield 13, 3) := by decide +kernel
theorem dX7_of_118 : decode cX7_of 118 = .ok (.iload_n 1, 1) := by decide +kernel
theorem dX7_of_119 : decode cX7_of 119 = .ok (.iaload, 1) := by decide +kernel
theorem dX7_of_120 : decode cX7_of 120 = .ok (.ireturn, 1) := by decide +kernel
theorem dX7_of_121 : decode cX7_of 121 = .ok (.aload_n 0, 1) := by decide +kernel
theorem dX7_of_122 : decode cX7_of 122 = .ok (.getfield 22, 3) := by decide +kernel
theorem dX7_of_125 : decode cX7_of 125 = .ok (.iload_n 1, 1) := by decide +kernel
theorem dX7_of_126 : decode cX7_of 126 = .ok (.iaload, 1) := by decide +kernel
theorem dX7_of_127 : decode cX7_of 127 = .ok (.ireturn, 1) := by decide +kernel
theorem dX7_of_128 : decode cX7_of 128 = .ok (.aload_n 0, 1) := by decide +kernel
theorem dX7_of_129 : decode cX7_of 129 = .ok (.getfield 9, 3) := by decide +kernel
theorem dX7_of_132 : decode cX7_of 132 = .ok (.iload_n 1, 1) := by decide +kernel
theorem dX7_of_133 : decode cX7_of 133 = .ok (.iaload, 1) := by decide +kernel
theorem dX7_of_134 : decode cX7_of 134 = .ok (.iconst 1, 1) := by decide +kernel
theorem dX7_of_135 : decode cX7_of 135 = .ok (.if_icmp .eq 13, 3) := by decide +kernel
theorem dX7_of_138 : decode cX7_of 138 = .ok (.aload_n 0, 1) := by decide +kernel
theorem dX7_of_139 : decode cX7_of 139 = .ok (.getfield 9, 3) := by decide +kernel
theorem dX7_of_142 : decode cX7_of 142 = .ok (.iload_n 1, 1) := by decide +kernel
theorem dX7_of_143 : decode cX7_of 143 = .ok (.iaload, 1) := by decide +kernel
theorem dX7_of_144 : decode cX7_of 144 = .ok (.iconst 4, 1) := by decide +kernel
theorem dX7_of_145 : decode cX7_of 145 = .ok (.if_icmp .ne 7, 3) := by decide +kernel
theorem dX7_of_148 : decode cX7_of 148 = .ok (.iconst 3, 1) := by decide +kernel
theorem dX7_of_149 : decode cX7_of 149 = .ok (.goto 32, 3) := by decide +kernel
theorem dX7_of_152 : decode cX7_of 152 = .ok (.aload_n 0, 1) := by decide +kernel
theorem dX7_of_153 : decode cX7_of 153 = .ok (.getfield 9, 3) := by decide +kernel
theorem dX7_of_156 : decode cX7_of 156 = .ok (.iload_n 1, 1) := by decide +kernel
theorem dX7_of_157 : decode cX7_of 157 = .ok (.iaload, 1) := by decide +kernel
theorem dX7_of_158 : decode cX7_of 158 = .ok (.iconst 2, 1) := by decide +kernel
theorem dX7_of_159 : decode cX7_of 159 = .ok (.if_icmp .ne 7, 3) := by decide +kernel
theorem dX7_of_162 : decode cX7_of 162 = .ok (.iconst 2, 1) := by decide +kernel
theorem dX7_of_163 : decode cX7_of 163 = .ok (.goto 18, 3) := by decide +kernel
theorem dX7_of_166 : decode cX7_of 166 = .ok (.aload_n 0, 1) := by decide +kernel
theorem dX7_of_167 : decode cX7_of 167 = .ok (.getfield 9, 3) := by decide +kernel
theorem dX7_of_170 : decode cX7_of 170 = .ok (.iload_n 1, 1) := by decide +kernel
theorem dX7_of_171 : decode cX7_of 171 = .ok (.iaload, 1) := by decide +kernel
theorem dX7_of_172 : decode cX7_of 172 = .ok (.iconst 3, 1) := by decide +kernel
theorem dX7_of_173 : decode cX7_of 173 = .ok (.if_icmp .ne 7, 3) := by decide +kernel
theorem dX7_of_176 : decode cX7_of 176 = .ok (.iconst 4, 1) := by decide +kernel
theorem dX7_of_177 : decode cX7_of 177 = .ok (.goto 4, 3) := by decide +kernel
theorem dX7_of_180 : decode cX7_of 180 = .ok (.iconst 1, 1) := by decide +kernel
theorem dX7_of_181 : decode cX7_of 181 = .ok (.ireturn, 1) := by decide +kernel
theorem dX7_of_182 : decode cX7_of 182 = .ok (.bipush (-2), 2) := by decide +kernel
theorem dX7_of_184 : decode cX7_of 184 = .ok (.ireturn, 1) := by decide +kernel
theorem dX7_count_0 : decode cX7_count 0 = .ok (.iconst 0, 1) := by decide +kernel
theorem dX7_count_1 : decode cX7_count 1 = .ok (.istore_n 2, 1) := by decide +kernel
theorem dX7_count_2 : decode cX7_count 2 = .ok (.iload_n 1, 1) := by decide +kernel
theorem dX7_count_3 : decode cX7_count 3 = .ok (.tableswitch 108 0 6 #[41, 46, 83, 88, 93, 98, 103], 41) := by decide +kernel
theorem dX7_count_44 : decode cX7_count 44 = .ok (.aload_n 0, 1) := by decide +kernel
theorem dX7_count_45 : decode cX7_count 45 = .ok (.getfield 73, 3) := by decide +kernel
theorem dX7_count_48 : decode cX7_count 48 = .ok (.ireturn, 1) := by decide +kernel
theorem dX7_count_49 : decode cX7_count 49 = .ok (.iconst 0, 1) := by decide +kernel
theorem dX7_count_50 : decode cX7_count 50 = .ok (.istore_n 3, 1) := by decide +kernel
theorem dX7_count_51 : decode cX7_count 51 = .ok (.iload_n 3, 1) := by decide +kernel
theorem dX7_count_52 : decode cX7_count 52 = .ok (.aload_n 0, 1) := by decide +kernel
theorem dX7_count_53 : decode cX7_count 53 = .ok (.getfield 73, 3) := by decide +kernel
theorem dX7_count_56 : decode cX7_count 56 = .ok (.if_icmp .ge 28, 3) := by decide +kernel
theorem dX7_count_59 : decode cX7_count 59 = .ok (.iload_n 2, 1) := by decide +kernel
theorem dX7_count_60 : decode cX7_count 60 = .ok (.aload_n 0, 1) := by decide +kernel
theorem dX7_count_61 : decode cX7_count 61 = .ok (.getfield 95, 3) := by decide +kernel
theorem dX7_count_64 : decode cX7_count 64 = .ok (.iload_n 3, 1) := by decide +kernel
theorem dX7_count_65 : decode cX7_count 65 = .ok (.invokestatic 76, 3) := by decide +kernel
theorem dX7_count_68 : decode cX7_count 68 = .ok (.ifCond .eq 7, 3) := by decide +kernel
theorem dX7_count_71 : decode cX7_count 71 = .ok (.iconst 1, 1) := by decide +kernel
theorem dX7_count_72 : decode cX7_count 72 = .ok (.goto 4, 3) := by decide +kernel
theorem dX7_count_75 : decode cX7_count 75 = .ok (.iconst 0, 1) := by decide +kernel
theorem dX7_count_76 : decode cX7_count 76 = .ok (.iadd, 1) := by decide +kernel
theorem dX7_count_77 : decode cX7_count 77 = .ok (.istore_n 2, 1) := by decide +kernel
theorem dX7_count_78 : decode cX7_count 78 = .ok (.iinc 3 1, 3) := by decide +kernel
theorem dX7_count_81 : decode cX7_count 81 = .ok (.goto (-30), 3) := by decide +kernel
theorem dX7_count_84 : decode cX7_count 84 = .ok (.iload_n 2, 1) := by decide +kernel
theorem dX7_count_85 : decode cX7_count 85 = .ok (.ireturn, 1) := by decide +kernel
theorem dX7_count_86 : decode cX7_count 86 = .ok (.aload_n 0, 1) := by decide +kernel
theorem dX7_count_87 : decode cX7_count 87 = .ok (.getfield 25, 3) := by decide +kernel
theorem dX7_count_90 : decode cX7_count 90 = .ok (.ireturn, 1) := by decide +kernel
theorem dX7_count_91 : decode cX7_count 91 = .ok (.aload_n 0, 1) := by decide +kernel
theorem dX7_count_92 : decode cX7_count 92 = .ok (.invokevirtual 139, 3) := by decide +kernel
theorem dX7_count_95 : decode cX7_count 95 = .ok (.ireturn, 1) := by decide +kernel
theorem dX7_count_96 : decode cX7_count 96 = .ok (.aload_n 0, 1) := by decide +kernel
theorem dX7_count_97 : decode cX7_count 97 = .ok (.getfield 119, 3) := by decide +kernel
theorem dX7_count_100 : decode cX7_count 100 = .ok (.ireturn, 1) := by decide +kernel
theorem dX7_count_101 : decode cX7_count 101 = .ok (.aload_n 0, 1) := by decide +kernel
theorem dX7_count_102 : decode cX7_count 102 = .ok (.getfield 92, 3) := by decide +kernel
theorem dX7_count_105 : decode cX7_count 105 = .ok (.ireturn, 1) := by decide +kernel
theorem dX7_count_106 : decode cX7_count 106 = .ok (.aload_n 0, 1) := by decide +kernel
theorem dX7_count_107 : decode cX7_count 107 = .ok (.invokevirtual 146, 3) := by decide +kernel
theorem dX7_count_110 : decode cX7_count 110 = .ok (.ireturn, 1) := by decide +kernel
theorem dX7_count_111 : decode cX7_count 111 = .ok (.bipush (-2), 2) := by decide +kernel
theorem dX7_count_113 : decode cX7_count 113 = .ok (.ireturn, 1) := by decide +kernel
theorem dX7_ones_0 : decode cX7_ones 0 = .ok (.iconst 0, 1) := by decide +kernel
theorem dX7_ones_1 : decode cX7_ones 1 = .ok (.istore_n 1, 1) := by decide +kernel
theorem dX7_ones_2 : decode cX7_ones 2 = .ok (.iconst 0, 1) := by decide +kernel
theorem dX7_ones_3 : decode cX7_ones 3 = .ok (.istore_n 2, 1) := by decide +kernel
theorem dX7_ones_4 : decode cX7_ones 4 = .ok (.iload_n 2, 1) := by decide +kernel
theorem dX7_ones_5 : decode cX7_ones 5 = .ok (.sipush 4096, 3) := by decide +kernel
theorem dX7_ones_8 : decode cX7_ones 8 = .ok (.if_icmp .ge 26, 3) := by decide +kernel
theorem dX7_ones_11 : decode cX7_ones 11 = .ok (.iload_n 1, 1) := by decide +kernel
theorem dX7_ones_12 : decode cX7_ones 12 = .ok (.aload_n 0, 1) := by decide +kernel
theorem dX7_ones_13 : decode cX7_ones 13 = .ok (.getfield 32, 3) := by decide +kernel
theorem dX7_ones_16 : decode cX7_ones 16 = .ok (.iload_n 2, 1) := by decide +kernel
theorem dX7_ones_17 : decode cX7_ones 17 = .ok (.baload, 1) := by decide +kernel
theorem dX7_ones_18 : decode cX7_ones 18 = .ok (.ifCond .eq 7, 3) := by decide +kernel
theorem dX7_ones_21 : decode cX7_ones 21 = .ok (.iconst 1, 1) := by decide +kernel
theorem dX7_ones_22 : decode cX7_ones 22 = .ok (.goto 4, 3) := by decide +kernel
theorem dX7_ones_25 : decode cX7_ones 25 = .ok (.iconst 0, 1) := by decide +kernel
theorem dX7_ones_26 : decode cX7_ones 26 = .ok (.iadd, 1) := by decide +kernel
theorem dX7_ones_27 : decode cX7_ones 27 = .ok (.istore_n 1, 1) := by decide +kernel
theorem dX7_ones_28 : decode cX7_ones 28 = .ok (.iinc 2 1, 3) := by decide +kernel
theorem dX7_ones_31 : decode cX7_ones 31 = .ok (.goto (-27), 3) := by decide +kernel
theorem dX7_ones_34 : decode cX7_ones 34 = .ok (.iload_n 1, 1) := by decide +kernel
theorem dX7_ones_35 : decode cX7_ones 35 = .ok (.ireturn, 1) := by decide +kernel
theorem dX7_stood_0 : decode cX7_stood 0 = .ok (.iload_n 1, 1) := by decide +kernel
theorem dX7_stood_1 : decode cX7_stood 1 = .ok (.istore_n 3, 1) := by decide +kernel
theorem dX7_stood_2 : decode cX7_stood 2 = .ok (.iconst 0, 1) := by decide +kernel
theorem dX7_stood_3 : decode cX7_stood 3 = .ok (.istore 4, 2) := by decide +kernel
theorem dX7_stood_5 : decode cX7_stood 5 = .ok (.iload 4, 2) := by decide +kernel
theorem dX7_stood_7 : decode cX7_stood 7 = .ok (.aload_n 0, 1) := by decide +kernel
theorem dX7_stood_8 : decode cX7_stood 8 = .ok (.getfield 119, 3) := by decide +kernel
theorem dX7_stood_11 : decode cX7_stood 11 = .ok (.if_icmp .ge 41, 3) := by decide +kernel
theorem dX7_stood_14 : decode cX7_stood 14 = .ok (.aload_n 0, 1) := by decide +kernel
theorem dX7_stood_15 : decode cX7_stood 15 = .ok (.getfield 122, 3) := by decide +kernel
theorem dX7_stood_18 : decode cX7_stood 18 = .ok (.ifCond .ne 34, 3) := by decide +kernel
theorem dX7_stood_21 : decode cX7_stood 21 = .ok (.iload_n 3, 1) := by decide +kernel
theorem dX7_stood_22 : decode cX7_stood 22 = .ok (.iload_n 2, 1) := by decide +kernel
theorem dX7_stood_23 : decode cX7_stood 23 = .ok (.aload_n 0, 1) := by decide +kernel
theorem dX7_stood_24 : decode cX7_stood 24 = .ok (.getfield 29, 3) := by decide +kernel
theorem dX7_stood_27 : decode cX7_stood 27 = .ok (.iload 4, 2) := by decide +kernel
theorem dX7_stood_29 : decode cX7_stood 29 = .ok (.iaload, 1) := by decide +kernel
theorem dX7_stood_30 : decode cX7_stood 30 = .ok (.invokestatic 76, 3) := by decide +kernel
theorem dX7_stood_33 : decode cX7_stood 33 = .ok (.ifCond .eq 10, 3) := by decide +kernel
theorem dX7_stood_36 : decode cX7_stood 36 = .ok (.iconst 1, 1) := by decide +kernel
theorem dX7_stood_37 : decode cX7_stood 37 = .ok (.iload 4, 2) := by decide +kernel
theorem dX7_stood_39 : decode cX7_stood 39 = .ok (.ishl, 1) := by decide +kernel
theorem dX7_stood_40 : decode cX7_stood 40 = .ok (.goto 4, 3) := by decide +kernel
theorem dX7_stood_43 : decode cX7_stood 43 = .ok (.iconst 0, 1) := by decide +kernel
theorem dX7_stood_44 : decode cX7_stood 44 = .ok (.ior, 1) := by decide +kernel
theorem dX7_stood_45 : decode cX7_stood 45 = .ok (.istore_n 3, 1) := by decide +kernel
theorem dX7_stood_46 : decode cX7_stood 46 = .ok (.iinc 4 1, 3) := by decide +kernel
theorem dX7_stood_49 : decode cX7_stood 49 = .ok (.goto (-44), 3) := by decide +kernel
theorem dX7_stood_52 : decode cX7_stood 52 = .ok (.iload_n 3, 1) := by decide +kernel
theorem dX7_stood_53 : decode cX7_stood 53 = .ok (.ireturn, 1) := by decide +kernel
theorem dX7_stand_0 : decode cX7_stand 0 = .ok (.iconst 1, 1) := by decide +kernel
theorem dX7_stand_1 : decode cX7_stand 1 = .ok (.istore_n 2, 1) := by decide +kernel
theorem dX7_stand_2 : decode cX7_stand 2 = .ok (.iconst 0, 1) := by decide +kernel
theorem dX7_stand_3 : decode cX7_stand 3 = .ok (.istore_n 3, 1) := by decide +kernel
theorem dX7_stand_4 : decode cX7_stand 4 = .ok (.iload_n 3, 1) := by decide +kernel
theorem dX7_stand_5 : decode cX7_stand 5 = .ok (.aload_n 0, 1) := by decide +kernel
theorem dX7_stand_6 : decode cX7_stand 6 = .ok (.getfield 119, 3) := by decide +kernel
theorem dX7_stand_9 : decode cX7_stand 9 = .ok (.if_icmp .ge 22, 3) := by decide +kernel
theorem dX7_stand_12 : decode cX7_stand 12 = .ok (.iload_n 2, 1) := by decide +kernel
theorem dX7_stand_13 : decode cX7_stand 13 = .ok (.iload_n 1, 1) := by decide +kernel
theorem dX7_stand_14 : decode cX7_stand 14 = .ok (.aload_n 0, 1) := by decide +kernel
theorem dX7_stand_15 : decode cX7_stand 15 = .ok (.getfield 29, 3) := by decide +kernel
theorem dX7_stand_18 : decode cX7_stand 18 = .ok (.iload_n 3, 1) := by decide +kernel
theorem dX7_stand_19 : decode cX7_stand 19 = .ok (.iaload, 1) := by decide +kernel
theorem dX7_stand_20 : decode cX7_stand 20 = .ok (.invokestatic 76, 3) := by decide +kernel
theorem dX7_stand_23 : decode cX7_stand 23 = .ok (.iand, 1) := by decide +kernel
theorem dX7_stand_24 : decode cX7_stand 24 = .ok (.istore_n 2, 1) := by decide +kernel
theorem dX7_stand_25 : decode cX7_stand 25 = .ok (.iinc 3 1, 3) := by decide +kernel
theorem dX7_stand_28 : decode cX7_stand 28 = .ok (.goto (-24), 3) := by decide +kernel
theorem dX7_stand_31 : decode cX7_stand 31 = .ok (.iload_n 2, 1) := by decide +kernel
theorem dX7_stand_32 : decode cX7_stand 32 = .ok (.ireturn, 1) := by decide +kernel
theorem dX7_isEnd_0 : decode cX7_isEnd 0 = .ok (.aload_n 0, 1) := by decide +kernel
theorem dX7_isEnd_1 : decode cX7_isEnd 1 = .ok (.getfield 122, 3) := by decide +kernel
theorem dX7_isEnd_4 : decode cX7_isEnd 4 = .ok (.ifCond .eq 11, 3) := by decide +kernel
theorem dX7_isEnd_7 : decode cX7_isEnd 7 = .ok (.aload_n 0, 1) := by decide +kernel
theorem dX7_isEnd_8 : decode cX7_isEnd 8 = .ok (.iload_n 1, 1) := by decide +kernel
theorem dX7_isEnd_9 : decode cX7_isEnd 9 = .ok (.invokevirtual 149, 3) := by decide +kernel
theorem dX7_isEnd_12 : decode cX7_isEnd 12 = .ok (.goto 20, 3) := by decide +kernel
theorem dX7_isEnd_15 : decode cX7_isEnd 15 = .ok (.iload_n 2, 1) := by decide +kernel
theorem dX7_isEnd_16 : decode cX7_isEnd 16 = .ok (.iconst 1, 1) := by decide +kernel
theorem dX7_isEnd_17 : decode cX7_isEnd 17 = .ok (.aload_n 0, 1) := by decide +kernel
theorem dX7_isEnd_18 : decode cX7_isEnd 18 = .ok (.getfield 119, 3) := by decide +kernel
theorem dX7_isEnd_21 : decode cX7_isEnd 21 = .ok (.ishl, 1) := by decide +kernel
theorem dX7_isEnd_22 : decode cX7_isEnd 22 = .ok (.iconst 1, 1) := by decide +kernel
theorem dX7_isEnd_23 : decode cX7_isEnd 23 = .ok (.isub, 1) := by decide +kernel
theorem dX7_isEnd_24 : decode cX7_isEnd 24 = .ok (.if_icmp .ne 7, 3) := by decide +kernel
theorem dX7_isEnd_27 : decode cX7_isEnd 27 = .ok (.iconst 1, 1) := by decide +kernel
theorem dX7_isEnd_28 : decode cX7_isEnd 28 = .ok (.goto 4, 3) := by decide +kernel
theorem dX7_isEnd_31 : decode cX7_isEnd 31 = .ok (.iconst 0, 1) := by decide +kernel
theorem dX7_isEnd_32 : decode cX7_isEnd 32 = .ok (.ireturn, 1) := by decide +kernel
theorem dX7_behind_0 : decode cX7_behind 0 = .ok (.iload_n 1, 1) := by decide +kernel
theorem dX7_behind_1 : decode cX7_behind 1 = .ok (.sipush 512, 3) := by decide +kernel
theorem dX7_behind_4 : decode cX7_behind 4 = .ok (.irem, 1) := by decide +kernel
theorem dX7_behind_5 : decode cX7_behind 5 = .ok (.istore 4, 2) := by decide +kernel
theorem dX7_behind_7 : decode cX7_behind 7 = .ok (.iload_n 1, 1) := by decide +kernel
theorem dX7_behind_8 : decode cX7_behind 8 = .ok (.sipush 512, 3) := by decide +kernel
theorem dX7_behind_11 : decode cX7_behind 11 = .ok (.idiv, 1) := by decide +kernel
theorem dX7_behind_12 : decode cX7_behind 12 = .ok (.bipush 10, 2) := by decide +kernel
theorem dX7_behind_14 : decode cX7_behind 14 = .ok (.irem, 1) := by decide +kernel
theorem dX7_behind_15 : decode cX7_behind 15 = .ok (.istore 5, 2) := by decide +kernel
theorem dX7_behind_17 : decode cX7_behind 17 = .ok (.iload_n 1, 1) := by decide +kernel
theorem dX7_behind_18 : decode cX7_behind 18 = .ok (.sipush 5120, 3) := by decide +kernel
theorem dX7_behind_21 : decode cX7_behind 21 = .ok (.idiv, 1) := by decide +kernel
theorem dX7_behind_22 : decode cX7_behind 22 = .ok (.istore 6, 2) := by decide +kernel
theorem dX7_behind_24 : decode cX7_behind 24 = .ok (.iload_n 2, 1) := by decide +kernel
theorem dX7_behind_25 : decode cX7_behind 25 = .ok (.bipush 9, 2) := by decide +kernel
theorem dX7_behind_27 : decode cX7_behind 27 = .ok (.irem, 1) := by decide +kernel
theorem dX7_behind_28 : decode cX7_behind 28 = .ok (.istore 7, 2) := by decide +kernel
theorem dX7_behind_30 : decode cX7_behind 30 = .ok (.iload 7, 2) := by decide +kernel
theorem dX7_behind_32 : decode cX7_behind 32 = .ok (.aload_n 0, 1) := by decide +kernel
theorem dX7_behind_33 : decode cX7_behind 33 = .ok (.getfield 73, 3) := by decide +kernel
theorem dX7_behind_36 : decode cX7_behind 36 = .ok (.if_icmp .lt 5, 3) := by decide +kernel
theorem dX7_behind_39 : decode cX7_behind 39 = .ok (.iconst (-1), 1) := by decide +kernel
theorem dX7_behind_40 : decode cX7_behind 40 = .ok (.ireturn, 1) := by decide +kernel
theorem dX7_behind_41 : decode cX7_behind 41 = .ok (.iload 4, 2) := by decide +kernel
theorem dX7_behind_43 : decode cX7_behind 43 = .ok (.istore 8, 2) := by decide +kernel
theorem dX7_behind_45 : decode cX7_behind 45 = .ok (.iload 5, 2) := by decide +kernel
theorem dX7_behind_47 : decode cX7_behind 47 = .ok (.istore 9, 2) := by decide +kernel
theorem dX7_behind_49 : decode cX7_behind 49 = .ok (.iload_n 2, 1) := by decide +kernel
theorem dX7_behind_50 : decode cX7_behind 50 = .ok (.bipush 9, 2) := by decide +kernel
theorem dX7_behind_52 : decode cX7_behind 52 = .ok (.if_icmp .ge 40, 3) := by decide +kernel
theorem dX7_behind_55 : decode cX7_behind 55 = .ok (.aload_n 0, 1) := by decide +kernel
theorem dX7_behind_56 : decode cX7_behind 56 = .ok (.iload 4, 2) := by decide +kernel
theorem dX7_behind_58 : decode cX7_behind 58 = .ok (.iload 5, 2) := by decide +kernel
theorem dX7_behind_60 : decode cX7_behind 60 = .ok (.iload 7, 2) := by decide +kernel
theorem dX7_behind_62 : decode cX7_behind 62 = .ok (.iload_n 3, 1) := by decide +kernel
theorem dX7_behind_63 : decode cX7_behind 63 = .ok (.invokevirtual 126, 3) := by decide +kernel
theorem dX7_behind_66 : decode cX7_behind 66 = .ok (.ifCond .eq 5, 3) := by decide +kernel
theorem dX7_behind_69 : decode cX7_behind 69 = .ok (.iconst (-1), 1) := by decide +kernel
theorem dX7_behind_70 : decode cX7_behind 70 = .ok (.ireturn, 1) := by decide +kernel
theorem dX7_behind_71 : decode cX7_behind 71 = .ok (.aload_n 0, 1) := by decide +kernel
theorem dX7_behind_72 : decode cX7_behind 72 = .ok (.iload 4, 2) := by decide +kernel
theorem dX7_behind_74 : decode cX7_behind 74 = .ok (.iload 7, 2) := by decide +kernel
theorem dX7_behind_76 : decode cX7_behind 76 = .ok (.invokevirtual 133, 3) := by decide +kernel
theorem dX7_behind_79 : decode cX7_behind 79 = .ok (.istore 8, 2) := by decide +kernel
theorem dX7_behind_81 : decode cX7_behind 81 = .ok (.aload_n 0, 1) := by decide +kernel
theorem dX7_behind_82 : decode cX7_behind 82 = .ok (.iload 7, 2) := by decide +kernel
theorem dX7_behind_84 : decode cX7_behind 84 = .ok (.invokevirtual 136, 3) := by decide +kernel
theorem dX7_behind_87 : decode cX7_behind 87 = .ok (.istore 9, 2) := by decide +kernel
theorem dX7_behind_89 : decode cX7_behind 89 = .ok (.goto 35, 3) := by decide +kernel
theorem dX7_behind_92 : decode cX7_behind 92 = .ok (.iload 4, 2) := by decide +kernel
theorem dX7_behind_94 : decode cX7_behind 94 = .ok (.iload 7, 2) := by decide +kernel
theorem dX7_behind_96 : decode cX7_behind 96 = .ok (.invokestatic 76, 3) := by decide +kernel
theorem dX7_behind_99 : decode cX7_behind 99 = .ok (.ifCond .ne 5, 3) := by decide +kernel
theorem dX7_behind_102 : decode cX7_behind 102 = .ok (.iconst (-1), 1) := by decide +kernel
theorem dX7_behind_103 : decode cX7_behind 103 = .ok (.ireturn, 1) := by decide +kernel
theorem dX7_behind_104 : decode cX7_behind 104 = .ok (.iload 4, 2) := by decide +kernel
theorem dX7_behind_106 : decode cX7_behind 106 = .ok (.iconst 1, 1) := by decide +kernel
theorem dX7_behind_107 : decode cX7_behind 107 = .ok (.iload 7, 2) := by decide +kernel
theorem dX7_behind_109 : decode cX7_behind 109 = .ok (.ishl, 1) := by decide +kernel
theorem dX7_behind_110 : decode cX7_behind 110 = .ok (.iconst (-1), 1) := by decide +kernel
theorem dX7_behind_111 : decode cX7_behind 111 = .ok (.ixor, 1) := by decide +kernel
theorem dX7_behind_112 : decode cX7_behind 112 = .ok (.iand, 1) := by decide +kernel
theorem dX7_behind_113 : decode cX7_behind 113 = .ok (.istore 8, 2) := by decide +kernel
theorem dX7_behind_115 : decode cX7_behind 115 = .ok (.iload 5, 2) := by decide +kernel
theorem dX7_behind_117 : decode cX7_behind 117 = .ok (.iload 7, 2) := by decide +kernel
theorem dX7_behind_119 : decode cX7_behind 119 = .ok (.invokestatic 143, 3) := by decide +kernel
theorem dX7_behind_122 : decode cX7_behind 122 = .ok (.istore 9, 2) := by decide +kernel
theorem dX7_behind_124 : decode cX7_behind 124 = .ok (.iload 8, 2) := by decide +kernel
theorem dX7_behind_126 : decode cX7_behind 126 = .ok (.sipush 512, 3) := by decide +kernel
theorem dX7_behind_129 : decode cX7_behind 129 = .ok (.iload 9, 2) := by decide +kernel
theorem dX7_behind_131 : decode cX7_behind 131 = .ok (.imul, 1) := by decide +kernel
theorem dX7_behind_132 : decode cX7_behind 132 = .ok (.iadd, 1) := by decide +kernel
theorem dX7_behind_133 : decode cX7_behind 133 = .ok (.sipush 5120, 3) := by decide +kernel
theorem dX7_behind_136 : decode cX7_behind 136 = .ok (.aload_n 0, 1) := by decide +kernel
theorem dX7_behind_137 : decode cX7_behind 137 = .ok (.iload 6, 2) := by decide +kernel
theorem dX7_behind_139 : decode cX7_behind 139 = .ok (.iload 8, 2) := by decide +kernel
theorem dX7_behind_141 : decode cX7_behind 141 = .ok (.invokevirtual 152, 3) := by decide +kernel
theorem dX7_behind_144 : decode cX7_behind 144 = .ok (.imul, 1) := by decide +kernel
theorem dX7_behind_145 : decode cX7_behind 145 = .ok (.iadd, 1) := by decide +kernel
theorem dX7_behind_146 : decode cX7_behind 146 = .ok (.ireturn, 1) := by decide +kernel
theorem dX7_price_0 : decode cX7_price 0 = .ok (.iload_n 0, 1) := by decide +kernel
theorem dX7_price_1 : decode cX7_price 1 = .ok (.bipush 9, 2) := by decide +kernel
theorem dX7_price_3 : decode cX7_price 3 = .ok (.if_icmp .ge 8, 3) := by decide +kernel
theorem dX7_price_6 : decode cX7_price 6 = .ok (.ldc 155, 2) := by decide +kernel
theorem dX7_price_8 : decode cX7_price 8 = .ok (.goto 4, 3) := by decide +kernel
theorem dX7_price_11 : decode cX7_price 11 = .ok (.iconst 1, 1) := by decide +kernel
theorem dX7_price_12 : decode cX7_price 12 = .ok (.ireturn, 1) := by decide +kernel
theorem dX7_spread_0 : decode cX7_spread 0 = .ok (.iconst 0, 1) := by decide +kernel
theorem dX7_spread_1 : decode cX7_spread 1 = .ok (.istore_n 2, 1) := by decide +kernel
theorem dX7_spread_2 : decode cX7_spread 2 = .ok (.iload_n 2, 1) := by decide +kernel
theorem dX7_spread_3 : decode cX7_spread 3 = .ok (.ldc 54, 2) := by decide +kernel
theorem dX7_spread_5 : decode cX7_spread 5 = .ok (.if_icmp .ge 24, 3) := by decide +kernel
theorem dX7_spread_8 : decode cX7_spread 8 = .ok (.aload_n 0, 1) := by decide +kernel
theorem dX7_spread_9 : decode cX7_spread 9 = .ok (.getfield 55, 3) := by decide +kernel
theorem dX7_spread_12 : decode cX7_spread 12 = .ok (.iload_n 2, 1) := by decide +kernel
theorem dX7_spread_13 : decode cX7_spread 13 = .ok (.ldc 156, 2) := by decide +kernel
theorem dX7_spread_15 : decode cX7_spread 15 = .ok (.iastore, 1) := by decide +kernel
theorem dX7_spread_16 : decode cX7_spread 16 = .ok (.aload_n 0, 1) := by decide +kernel
theorem dX7_spread_17 : decode cX7_spread 17 = .ok (.getfield 58, 3) := by decide +kernel
theorem dX7_spread_20 : decode cX7_spread 20 = .ok (.iload_n 2, 1) := by decide +kernel
theorem dX7_spread_21 : decode cX7_spread 21 = .ok (.iconst 0, 1) := by decide +kernel
theorem dX7_spread_22 : decode cX7_spread 22 = .ok (.bastore, 1) := by decide +kernel
theorem dX7_spread_23 : decode cX7_spread 23 = .ok (.iinc 2 1, 3) := by decide +kernel
theorem dX7_spread_26 : decode cX7_spread 26 = .ok (.goto (-24), 3) := by decide +kernel
theorem dX7_spread_29 : decode cX7_spread 29 = .ok (.aload_n 0, 1) := by decide +kernel
theorem dX7_spread_30 : decode cX7_spread 30 = .ok (.getfield 55, 3) := by decide +kernel
theorem dX7_spread_33 : decode cX7_spread 33 = .ok (.iconst 0, 1) := by decide +kernel
theorem dX7_spread_34 : decode cX7_spread 34 = .ok (.iconst 0, 1) := by decide +kernel
theorem dX7_spread_35 : decode cX7_spread 35 = .ok (.iastore, 1) := by decide +kernel
theorem dX7_spread_36 : decode cX7_spread 36 = .ok (.iconst 0, 1) := by decide +kernel
theorem dX7_spread_37 : decode cX7_spread 37 = .ok (.istore_n 2, 1) := by decide +kernel
theorem dX7_spread_38 : decode cX7_spread 38 = .ok (.iconst 1, 1) := by decide +kernel
theorem dX7_spread_39 : decode cX7_spread 39 = .ok (.istore_n 3, 1) := by decide +kernel
theorem dX7_spread_40 : decode cX7_spread 40 = .ok (.aload_n 0, 1) := by decide +kernel
theorem dX7_spread_41 : decode cX7_spread 41 = .ok (.getfield 61, 3) := by decide +kernel
theorem dX7_spread_44 : decode cX7_spread 44 = .ok (.iconst 0, 1) := by decide +kernel
theorem dX7_spread_45 : decode cX7_spread 45 = .ok (.iconst 0, 1) := by decide +kernel
theorem dX7_spread_46 : decode cX7_spread 46 = .ok (.iastore, 1) := by decide +kernel
theorem dX7_spread_47 : decode cX7_spread 47 = .ok (.iload_n 3, 1) := by decide +kernel
theorem dX7_spread_48 : decode cX7_spread 48 = .ok (.ifCond .le 141, 3) := by decide +kernel
theorem dX7_spread_51 : decode cX7_spread 51 = .ok (.aload_n 0, 1) := by decide +kernel
theorem dX7_spread_52 : decode cX7_spread 52 = .ok (.getfield 61, 3) := by decide +kernel
theorem dX7_spread_55 : decode cX7_spread 55 = .ok (.iload_n 2, 1) := by decide +kernel
theorem dX7_spread_56 : decode cX7_spread 56 = .ok (.iaload, 1) := by decide +kernel
theorem dX7_spread_57 : decode cX7_spread 57 = .ok (.istore 4, 2) := by decide +kernel
theorem dX7_spread_59 : decode cX7_spread 59 = .ok (.iload_n 2, 1) := by decide +kernel
theorem dX7_spread_60 : decode cX7_spread 60 = .ok (.iconst 1, 1) := by decide +kernel
theorem dX7_spread_61 : decode cX7_spread 61 = .ok (.iadd, 1) := by decide +kernel
theorem dX7_spread_62 : decode cX7_spread 62 = .ok (.ldc 54, 2) := by decide +kernel
theorem dX7_spread_64 : decode cX7_spread 64 = .ok (.irem, 1) := by decide +kernel
theorem dX7_spread_65 : decode cX7_spread 65 = .ok (.istore_n 2, 1) := by decide +kernel
theorem dX7_spread_66 : decode cX7_spread 66 = .ok (.iinc 3 (-1), 3) := by decide +kernel
theorem dX7_spread_69 : decode cX7_spread 69 = .ok (.aload_n 0, 1) := by decide +kernel
theorem dX7_spread_70 : decode cX7_spread 70 = .ok (.getfield 58, 3) := by decide +kernel
theorem dX7_spread_73 : decode cX7_spread 73 = .ok (.iload 4, 2) := by decide +kernel
theorem dX7_spread_75 : decode cX7_spread 75 = .ok (.iconst 0, 1) := by decide +kernel
theorem dX7_spread_76 : decode cX7_spread 76 = .ok (.bastore, 1) := by decide +kernel
theorem dX7_spread_77 : decode cX7_spread 77 = .ok (.iconst 0, 1) := by decide +kernel
theorem dX7_spread_78 : decode cX7_spread 78 = .ok (.istore 5, 2) := by decide +kernel
theorem dX7_spread_80 : decode cX7_spread 80 = .ok (.iload 5, 2) := by decide +kernel
theorem dX7_spread_82 : decode cX7_spread 82 = .ok (.bipush 18, 2) := by decide +kernel
theorem dX7_spread_84 : decode cX7_spread 84 = .ok (.if_icmp .ge 102, 3) := by decide +kernel
theorem dX7_spread_87 : decode cX7_spread 87 = .ok (.aload_n 0, 1) := by decide +kernel
theorem dX7_spread_88 : decode cX7_spread 88 = .ok (.iload 4, 2) := by decide +kernel
theorem dX7_spread_90 : decode cX7_spread 90 = .ok (.iload 5, 2) := by decide +kernel
theorem dX7_spread_92 : decode cX7_spread 92 = .ok (.iload_n 1, 1) := by decide +kernel
theorem dX7_spread_93 : decode cX7_spread 93 = .ok (.invokevirtual 157, 3) := by decide +kernel
theorem dX7_spread_96 : decode cX7_spread 96 = .ok (.istore 6, 2) := by decide +kernel
theorem dX7_spread_98 : decode cX7_spread 98 = .ok (.iload 6, 2) := by decide +kernel
theorem dX7_spread_100 : decode cX7_spread 100 = .ok (.ifCond .lt 80, 3) := by decide +kernel
theorem dX7_spread_103 : decode cX7_spread 103 = .ok (.aload_n 0, 1) := by decide +kernel
theorem dX7_spread_104 : decode cX7_spread 104 = .ok (.getfield 55, 3) := by decide +kernel
theorem dX7_spread_107 : decode cX7_spread 107 = .ok (.iload 4, 2) := by decide +kernel
theorem dX7_spread_109 : decode cX7_spread 109 = .ok (.iaload, 1) := by decide +kernel
theorem dX7_spread_110 : decode cX7_spread 110 = .ok (.iload 5, 2) := by decide +kernel
theorem dX7_spread_112 : decode cX7_spread 112 = .ok (.invokestatic 160, 3) := by decide +kernel
theorem dX7_spread_115 : decode cX7_spread 115 = .ok (.iadd, 1) := by decide +kernel
theorem dX7_spread_116 : decode cX7_spread 116 = .ok (.aload_n 0, 1) := by decide +kernel
theorem dX7_spread_117 : decode cX7_spread 117 = .ok (.getfield 55, 3) := by decide +kernel
theorem dX7_spread_120 : decode cX7_spread 120 = .ok (.iload 6, 2) := by decide +kernel
theorem dX7_spread_122 : decode cX7_spread 122 = .ok (.iaload, 1) := by decide +kernel
theorem dX7_spread_123 : decode cX7_spread 123 = .ok (.if_icmp .ge 57, 3) := by decide +kernel
theorem dX7_spread_126 : decode cX7_spread 126 = .ok (.aload_n 0, 1) := by decide +kernel
theorem dX7_spread_127 : decode cX7_spread 127 = .ok (.getfield 55, 3) := by decide +kernel
theorem dX7_spread_130 : decode cX7_spread 130 = .ok (.iload 6, 2) := by decide +kernel
theorem dX7_spread_132 : decode cX7_spread 132 = .ok (.aload_n 0, 1) := by decide +kernel
theorem dX7_spread_133 : decode cX7_spread 133 = .ok (.getfield 55, 3) := by decide +kernel
theorem dX7_spread_136 : decode cX7_spread 136 = .ok (.iload 4, 2) := by decide +kernel
theorem dX7_spread_138 : decode cX7_spread 138 = .ok (.iaload, 1) := by decide +kernel
theorem dX7_spread_139 : decode cX7_spread 139 = .ok (.iload 5, 2) := by decide +kernel
theorem dX7_spread_141 : decode cX7_spread 141 = .ok (.invokestatic 160, 3) := by decide +kernel
theorem dX7_spread_144 : decode cX7_spread 144 = .ok (.iadd, 1) := by decide +kernel
theorem dX7_spread_145 : decode cX7_spread 145 = .ok (.iastore, 1) := by decide +kernel
theorem dX7_spread_146 : decode cX7_spread 146 = .ok (.aload_n 0, 1) := by decide +kernel
theorem dX7_spread_147 : decode cX7_spread 147 = .ok (.getfield 58, 3) := by decide +kernel
theorem dX7_spread_150 : decode cX7_spread 150 = .ok (.iload 6, 2) := by decide +kernel
theorem dX7_spread_152 : decode cX7_spread 152 = .ok (.baload, 1) := by decide +kernel
theorem dX7_spread_153 : decode cX7_spread 153 = .ok (.ifCond .ne 27, 3) := by decide +kernel
theorem dX7_spread_156 : decode cX7_spread 156 = .ok (.aload_n 0, 1) := by decide +kernel
theorem dX7_spread_157 : decode cX7_spread 157 = .ok (.getfield 58, 3) := by decide +kernel
theorem dX7_spread_160 : decode cX7_spread 160 = .ok (.iload 6, 2) := by decide +kernel
theorem dX7_spread_162 : decode cX7_spread 162 = .ok (.iconst 1, 1) := by decide +kernel
theorem dX7_spread_163 : decode cX7_spread 163 = .ok (.bastore, 1) := by decide +kernel
theorem dX7_spread_164 : decode cX7_spread 164 = .ok (.aload_n 0, 1) := by decide +kernel
theorem dX7_spread_165 : decode cX7_spread 165 = .ok (.getfield 61, 3) := by decide +kernel
theorem dX7_spread_168 : decode cX7_spread 168 = .ok (.iload_n 2, 1) := by decide +kernel
theorem dX7_spread_169 : decode cX7_spread 169 = .ok (.iload_n 3, 1) := by decide +kernel
theorem dX7_spread_170 : decode cX7_spread 170 = .ok (.iadd, 1) := by decide +kernel
theorem dX7_spread_171 : decode cX7_spread 171 = .ok (.ldc 54, 2) := by decide +kernel
theorem dX7_spread_173 : decode cX7_spread 173 = .ok (.irem, 1) := by decide +kernel
theorem dX7_spread_174 : decode cX7_spread 174 = .ok (.iload 6, 2) := by decide +kernel
theorem dX7_spread_176 : decode cX7_spread 176 = .ok (.iastore, 1) := by decide +kernel
theorem dX7_spread_177 : decode cX7_spread 177 = .ok (.iinc 3 1, 3) := by decide +kernel
theorem dX7_spread_180 : decode cX7_spread 180 = .ok (.iinc 5 1, 3) := by decide +kernel
theorem dX7_spread_183 : decode cX7_spread 183 = .ok (.goto (-103), 3) := by decide +kernel
theorem dX7_spread_186 : decode cX7_spread 186 = .ok (.goto (-139), 3) := by decide +kernel
theorem dX7_spread_189 : decode cX7_spread 189 = .ok (.ldc 156, 2) := by decide +kernel
theorem dX7_spread_191 : decode cX7_spread 191 = .ok (.istore 4, 2) := by decide +kernel
theorem dX7_spread_193 : decode cX7_spread 193 = .ok (.iconst 0, 1) := by decide +kernel
theorem dX7_spread_194 : decode cX7_spread 194 = .ok (.istore 5, 2) := by decide +kernel
theorem dX7_spread_196 : decode cX7_spread 196 = .ok (.iload 5, 2) := by decide +kernel
theorem dX7_spread_198 : decode cX7_spread 198 = .ok (.ldc 54, 2) := by decide +kernel
theorem dX7_spread_200 : decode cX7_spread 200 = .ok (.if_icmp .ge 66, 3) := by decide +kernel
theorem dX7_spread_203 : decode cX7_spread 203 = .ok (.aload_n 0, 1) := by decide +kernel
theorem dX7_spread_204 : decode cX7_spread 204 = .ok (.getfield 55, 3) := by decide +kernel
theorem dX7_spread_207 : decode cX7_spread 207 = .ok (.iload 5, 2) := by decide +kernel
theorem dX7_spread_209 : decode cX7_spread 209 = .ok (.iaload, 1) := by decide +kernel
theorem dX7_spread_210 : decode cX7_spread 210 = .ok (.iload 4, 2) := by decide +kernel
theorem dX7_spread_212 : decode cX7_spread 212 = .ok (.if_icmp .ge 44, 3) := by decide +kernel
theorem dX7_spread_215 : decode cX7_spread 215 = .ok (.aload_n 0, 1) := by decide +kernel
theorem dX7_spread_216 : decode cX7_spread 216 = .ok (.iload 5, 2) := by decide +kernel
theorem dX7_spread_218 : decode cX7_spread 218 = .ok (.sipush 512, 3) := by decide +kernel
theorem dX7_spread_221 : decode cX7_spread 221 = .ok (.irem, 1) := by decide +kernel
theorem dX7_spread_222 : decode cX7_spread 222 = .ok (.iload 5, 2) := by decide +kernel
theorem dX7_spread_224 : decode cX7_spread 224 = .ok (.sipush 5120, 3) := by decide +kernel
theorem dX7_spread_227 : decode cX7_spread 227 = .ok (.idiv, 1) := by decide +kernel
theorem dX7_spread_228 : decode cX7_spread 228 = .ok (.invokevirtual 163, 3) := by decide +kernel
theorem dX7_spread_231 : decode cX7_spread 231 = .ok (.ifCond .eq 25, 3) := by decide +kernel
theorem dX7_spread_234 : decode cX7_spread 234 = .ok (.iload 5, 2) := by decide +kernel
theorem dX7_spread_236 : decode cX7_spread 236 = .ok (.ifCond .gt 10, 3) := by decide +kernel
theorem dX7_spread_239 : decode cX7_spread 239 = .ok (.aload_n 0, 1) := by decide +kernel
theorem dX7_spread_240 : decode cX7_spread 240 = .ok (.getfield 119, 3) := by decide +kernel
theorem dX7_spread_243 : decode cX7_spread 243 = .ok (.ifCond .ne 13, 3) := by decide +kernel
theorem dX7_spread_246 : decode cX7_spread 246 = .ok (.aload_n 0, 1) := by decide +kernel
theorem dX7_spread_247 : decode cX7_spread 247 = .ok (.getfield 55, 3) := by decide +kernel
theorem dX7_spread_250 : decode cX7_spread 250 = .ok (.iload 5, 2) := by decide +kernel
theorem dX7_spread_252 : decode cX7_spread 252 = .ok (.iaload, 1) := by decide +kernel
theorem dX7_spread_253 : decode cX7_spread 253 = .ok (.goto 5, 3) := by decide +kernel
theorem dX7_spread_256 : decode cX7_spread 256 = .ok (.iload 4, 2) := by decide +kernel
theorem dX7_spread_258 : decode cX7_spread 258 = .ok (.istore 4, 2) := by decide +kernel
theorem dX7_spread_260 : decode cX7_spread 260 = .ok (.iinc 5 1, 3) := by decide +kernel
theorem dX7_spread_263 : decode cX7_spread 263 = .ok (.goto (-67), 3) := by decide +kernel
theorem dX7_spread_266 : decode cX7_spread 266 = .ok (.iload 4, 2) := by decide +kernel
theorem dX7_spread_268 : decode cX7_spread 268 = .ok (.ireturn, 1) := by decide +kernel
theorem dX7_trace_0 : decode cX7_trace 0 = .ok (.iconst 0, 1) := by decide +kernel
theorem dX7_trace_1 : decode cX7_trace 1 = .ok (.istore_n 3, 1) := by decide +kernel
theorem dX7_trace_2 : decode cX7_trace 2 = .ok (.iload_n 3, 1) := by decide +kernel
theorem dX7_trace_3 : decode cX7_trace 3 = .ok (.ldc 54, 2) := by decide +kernel
theorem dX7_trace_5 : decode cX7_trace 5 = .ok (.if_icmp .ge 16, 3) := by decide +kernel
theorem dX7_trace_8 : decode cX7_trace 8 = .ok (.aload_n 0, 1) := by decide +kernel
theorem dX7_trace_9 : decode cX7_trace 9 = .ok (.getfield 64, 3) := by decide +kernel
theorem dX7_trace_12 : decode cX7_trace 12 = .ok (.iload_n 3, 1) := by decide +kernel
theorem dX7_trace_13 : decode cX7_trace 13 = .ok (.iconst 0, 1) := by decide +kernel
theorem dX7_trace_14 : decode cX7_trace 14 = .ok (.bastore, 1) := by decide +kernel
theorem dX7_trace_15 : decode cX7_trace 15 = .ok (.iinc 3 1, 3) := by decide +kernel
theorem dX7_trace_18 : decode cX7_trace 18 = .ok (.goto (-16), 3) := by decide +kernel
theorem dX7_trace_21 : decode cX7_trace 21 = .ok (.aload_n 0, 1) := by decide +kernel
theorem dX7_trace_22 : decode cX7_trace 22 = .ok (.iconst 0, 1) := by decide +kernel
theorem dX7_trace_23 : decode cX7_trace 23 = .ok (.putfield 166, 3) := by decide +kernel
theorem dX7_trace_26 : decode cX7_trace 26 = .ok (.iconst 0, 1) := by decide +kernel
theorem dX7_trace_27 : decode cX7_trace 27 = .ok (.istore_n 3, 1) := by decide +kernel
theorem dX7_trace_28 : decode cX7_trace 28 = .ok (.iconst 0, 1) := by decide +kernel
theorem dX7_trace_29 : decode cX7_trace 29 = .ok (.istore 4, 2) := by decide +kernel
theorem dX7_trace_31 : decode cX7_trace 31 = .ok (.aload_n 0, 1) := by decide +kernel
theorem dX7_trace_32 : decode cX7_trace 32 = .ok (.getfield 55, 3) := by decide +kernel
theorem dX7_trace_35 : decode cX7_trace 35 = .ok (.iload_n 3, 1) := by decide +kernel
theorem dX7_trace_36 : decode cX7_trace 36 = .ok (.iaload, 1) := by decide +kernel
theorem dX7_trace_37 : decode cX7_trace 37 = .ok (.iload_n 2, 1) := by decide +kernel
theorem dX7_trace_38 : decode cX7_trace 38 = .ok (.if_icmp .ne 20, 3) := by decide +kernel
theorem dX7_trace_41 : decode cX7_trace 41 = .ok (.aload_n 0, 1) := by decide +kernel
theorem dX7_trace_42 : decode cX7_trace 42 = .ok (.iload_n 3, 1) := by decide +kernel
theorem dX7_trace_43 : decode cX7_trace 43 = .ok (.sipush 512, 3) := by decide +kernel
theorem dX7_trace_46 : decode cX7_trace 46 = .ok (.irem, 1) := by decide +kernel
theorem dX7_trace_47 : decode cX7_trace 47 = .ok (.iload_n 3, 1) := by decide +kernel
theorem dX7_trace_48 : decode cX7_trace 48 = .ok (.sipush 5120, 3) := by decide +kernel
theorem dX7_trace_51 : decode cX7_trace 51 = .ok (.idiv, 1) := by decide +kernel
theorem dX7_trace_52 : decode cX7_trace 52 = .ok (.invokevirtual 163, 3) := by decide +kernel
theorem dX7_trace_55 : decode cX7_trace 55 = .ok (.ifCond .ne 168, 3) := by decide +kernel
theorem dX7_trace_58 : decode cX7_trace 58 = .ok (.iload 4, 2) := by decide +kernel
theorem dX7_trace_60 : decode cX7_trace 60 = .ok (.bipush 18, 2) := by decide +kernel
theorem dX7_trace_62 : decode cX7_trace 62 = .ok (.if_icmp .ge 14, 3) := by decide +kernel
theorem dX7_trace_65 : decode cX7_trace 65 = .ok (.aload_n 0, 1) := by decide +kernel
theorem dX7_trace_66 : decode cX7_trace 66 = .ok (.iload_n 3, 1) := by decide +kernel
theorem dX7_trace_67 : decode cX7_trace 67 = .ok (.iload 4, 2) := by decide +kernel
theorem dX7_trace_69 : decode cX7_trace 69 = .ok (.iload_n 1, 1) := by decide +kernel
theorem dX7_trace_70 : decode cX7_trace 70 = .ok (.invokevirtual 157, 3) := by decide +kernel
theorem dX7_trace_73 : decode cX7_trace 73 = .ok (.goto 4, 3) := by decide +kernel
theorem dX7_trace_76 : decode cX7_trace 76 = .ok (.iconst (-1), 1) := by decide +kernel
theorem dX7_trace_77 : decode cX7_trace 77 = .ok (.istore 5, 2) := by decide +kernel
theorem dX7_trace_79 : decode cX7_trace 79 = .ok (.iload 4, 2) := by decide +kernel
theorem dX7_trace_81 : decode cX7_trace 81 = .ok (.bipush 18, 2) := by decide +kernel
theorem dX7_trace_83 : decode cX7_trace 83 = .ok (.if_icmp .ne 46, 3) := by decide +kernel
theorem dX7_trace_86 : decode cX7_trace 86 = .ok (.aload_n 0, 1) := by decide +kernel
theorem dX7_trace_87 : decode cX7_trace 87 = .ok (.getfield 64, 3) := by decide +kernel
theorem dX7_trace_90 : decode cX7_trace 90 = .ok (.iload_n 3, 1) := by decide +kernel
theorem dX7_trace_91 : decode cX7_trace 91 = .ok (.iconst 1, 1) := by decide +kernel
theorem dX7_trace_92 : decode cX7_trace 92 = .ok (.bastore, 1) := by decide +kernel
theorem dX7_trace_93 : decode cX7_trace 93 = .ok (.aload_n 0, 1) := by decide +kernel
theorem dX7_trace_94 : decode cX7_trace 94 = .ok (.dup, 1) := by decide +kernel
theorem dX7_trace_95 : decode cX7_trace 95 = .ok (.getfield 166, 3) := by decide +kernel
theorem dX7_trace_98 : decode cX7_trace 98 = .ok (.iconst 1, 1) := by decide +kernel
theorem dX7_trace_99 : decode cX7_trace 99 = .ok (.isub, 1) := by decide +kernel
theorem dX7_trace_100 : decode cX7_trace 100 = .ok (.putfield 166, 3) := by decide +kernel
theorem dX7_trace_103 : decode cX7_trace 103 = .ok (.aload_n 0, 1) := by decide +kernel
theorem dX7_trace_104 : decode cX7_trace 104 = .ok (.getfield 70, 3) := by decide +kernel
theorem dX7_trace_107 : decode cX7_trace 107 = .ok (.aload_n 0, 1) := by decide +kernel
theorem dX7_trace_108 : decode cX7_trace 108 = .ok (.getfield 166, 3) := by decide +kernel
theorem dX7_trace_111 : decode cX7_trace 111 = .ok (.iaload, 1) := by decide +kernel
theorem dX7_trace_112 : decode cX7_trace 112 = .ok (.istore_n 3, 1) := by decide +kernel
theorem dX7_trace_113 : decode cX7_trace 113 = .ok (.aload_n 0, 1) := by decide +kernel
theorem dX7_trace_114 : decode cX7_trace 114 = .ok (.getfield 67, 3) := by decide +kernel
theorem dX7_trace_117 : decode cX7_trace 117 = .ok (.aload_n 0, 1) := by decide +kernel
theorem dX7_trace_118 : decode cX7_trace 118 = .ok (.getfield 166, 3) := by decide +kernel
theorem dX7_trace_121 : decode cX7_trace 121 = .ok (.iaload, 1) := by decide +kernel
theorem dX7_trace_122 : decode cX7_trace 122 = .ok (.iconst 1, 1) := by decide +kernel
theorem dX7_trace_123 : decode cX7_trace 123 = .ok (.iadd, 1) := by decide +kernel
theorem dX7_trace_124 : decode cX7_trace 124 = .ok (.istore 4, 2) := by decide +kernel
theorem dX7_trace_126 : decode cX7_trace 126 = .ok (.goto 94, 3) := by decide +kernel
theorem dX7_trace_129 : decode cX7_trace 129 = .ok (.iload 5, 2) := by decide +kernel
theorem dX7_trace_131 : decode cX7_trace 131 = .ok (.ifCond .lt 86, 3) := by decide +kernel
theorem dX7_trace_134 : decode cX7_trace 134 = .ok (.aload_n 0, 1) := by decide +kernel
theorem dX7_trace_135 : decode cX7_trace 135 = .ok (.getfield 55, 3) := by decide +kernel
theorem dX7_trace_138 : decode cX7_trace 138 = .ok (.iload 5, 2) := by decide +kernel
theorem dX7_trace_140 : decode cX7_trace 140 = .ok (.iaload, 1) := by decide +kernel
theorem dX7_trace_141 : decode cX7_trace 141 = .ok (.aload_n 0, 1) := by decide +kernel
theorem dX7_trace_142 : decode cX7_trace 142 = .ok (.getfield 55, 3) := by decide +kernel
theorem dX7_trace_145 : decode cX7_trace 145 = .ok (.iload_n 3, 1) := by decide +kernel
theorem dX7_trace_146 : decode cX7_trace 146 = .ok (.iaload, 1) := by decide +kernel
theorem dX7_trace_147 : decode cX7_trace 147 = .ok (.iload 4, 2) := by decide +kernel
theorem dX7_trace_149 : decode cX7_trace 149 = .ok (.invokestatic 160, 3) := by decide +kernel
theorem dX7_trace_152 : decode cX7_trace 152 = .ok (.iadd, 1) := by decide +kernel
theorem dX7_trace_153 : decode cX7_trace 153 = .ok (.if_icmp .ne 64, 3) := by decide +kernel
theorem dX7_trace_156 : decode cX7_trace 156 = .ok (.aload_n 0, 1) := by decide +kernel
theorem dX7_trace_157 : decode cX7_trace 157 = .ok (.getfield 55, 3) := by decide +kernel
theorem dX7_trace_160 : decode cX7_trace 160 = .ok (.iload 5, 2) := by decide +kernel
theorem dX7_trace_162 : decode cX7_trace 162 = .ok (.iaload, 1) := by decide +kernel
theorem dX7_trace_163 : decode cX7_trace 163 = .ok (.iload_n 2, 1) := by decide +kernel
theorem dX7_trace_164 : decode cX7_trace 164 = .ok (.if_icmp .gt 53, 3) := by decide +kernel
theorem dX7_trace_167 : decode cX7_trace 167 = .ok (.aload_n 0, 1) := by decide +kernel
theorem dX7_trace_168 : decode cX7_trace 168 = .ok (.getfield 64, 3) := by decide +kernel
theorem dX7_trace_171 : decode cX7_trace 171 = .ok (.iload 5, 2) := by decide +kernel
theorem dX7_trace_173 : decode cX7_trace 173 = .ok (.baload, 1) := by decide +kernel
theorem dX7_trace_174 : decode cX7_trace 174 = .ok (.ifCond .ne 43, 3) := by decide +kernel
theorem dX7_trace_177 : decode cX7_trace 177 = .ok (.aload_n 0, 1) := by decide +kernel
theorem dX7_trace_178 : decode cX7_trace 178 = .ok (.getfield 67, 3) := by decide +kernel
theorem dX7_trace_181 : decode cX7_trace 181 = .ok (.aload_n 0, 1) := by decide +kernel
theorem dX7_trace_182 : decode cX7_trace 182 = .ok (.getfield 166, 3) := by decide +kernel
theorem dX7_trace_185 : decode cX7_trace 185 = .ok (.iload 4, 2) := by decide +kernel
theorem dX7_trace_187 : decode cX7_trace 187 = .ok (.iastore, 1) := by decide +kernel
theorem dX7_trace_188 : decode cX7_trace 188 = .ok (.aload_n 0, 1) := by decide +kernel
theorem dX7_trace_189 : decode cX7_trace 189 = .ok (.getfield 70, 3) := by decide +kernel
theorem dX7_trace_192 : decode cX7_trace 192 = .ok (.aload_n 0, 1) := by decide +kernel
theorem dX7_trace_193 : decode cX7_trace 193 = .ok (.getfield 166, 3) := by decide +kernel
theorem dX7_trace_196 : decode cX7_trace 196 = .ok (.iload_n 3, 1) := by decide +kernel
theorem dX7_trace_197 : decode cX7_trace 197 = .ok (.iastore, 1) := by decide +kernel
theorem dX7_trace_198 : decode cX7_trace 198 = .ok (.aload_n 0, 1) := by decide +kernel
theorem dX7_trace_199 : decode cX7_trace 199 = .ok (.dup, 1) := by decide +kernel
theorem dX7_trace_200 : decode cX7_trace 200 = .ok (.getfield 166, 3) := by decide +kernel
theorem dX7_trace_203 : decode cX7_trace 203 = .ok (.iconst 1, 1) := by decide +kernel
theorem dX7_trace_204 : decode cX7_trace 204 = .ok (.iadd, 1) := by decide +kernel
theorem dX7_trace_205 : decode cX7_trace 205 = .ok (.putfield 166, 3) := by decide +kernel
theorem dX7_trace_208 : decode cX7_trace 208 = .ok (.iload 5, 2) := by decide +kernel
theorem dX7_trace_210 : decode cX7_trace 210 = .ok (.istore_n 3, 1) := by decide +kernel
theorem dX7_trace_211 : decode cX7_trace 211 = .ok (.iconst 0, 1) := by decide +kernel
theorem dX7_trace_212 : decode cX7_trace 212 = .ok (.istore 4, 2) := by decide +kernel
theorem dX7_trace_214 : decode cX7_trace 214 = .ok (.goto 6, 3) := by decide +kernel
theorem dX7_trace_217 : decode cX7_trace 217 = .ok (.iinc 4 1, 3) := by decide +kernel
theorem dX7_trace_220 : decode cX7_trace 220 = .ok (.goto (-189), 3) := by decide +kernel
theorem dX7_trace_223 : decode cX7_trace 223 = .ok (.return_, 1) := by decide +kernel
theorem dX7_fewest_0 : decode cX7_fewest 0 = .ok (.iload_n 1, 1) := by decide +kernel
theorem dX7_fewest_1 : decode cX7_fewest 1 = .ok (.iconst 1, 1) := by decide +kernel
theorem dX7_fewest_2 : decode cX7_fewest 2 = .ok (.if_icmp .lt 9, 3) := by decide +kernel
theorem dX7_fewest_5 : decode cX7_fewest 5 = .ok (.iload_n 1, 1) := by decide +kernel
theorem dX7_fewest_6 : decode cX7_fewest 6 = .ok (.bipush 18, 2) := by decide +kernel
theorem dX7_fewest_8 : decode cX7_fewest 8 = .ok (.if_icmp .le 6, 3) := by decide +kernel
theorem dX7_fewest_11 : decode cX7_fewest 11 = .ok (.bipush (-2), 2) := by decide +kernel
theorem dX7_fewest_13 : decode cX7_fewest 13 = .ok (.ireturn, 1) := by decide +kernel
theorem dX7_fewest_14 : decode cX7_fewest 14 = .ok (.aload_n 0, 1) := by decide +kernel
theorem dX7_fewest_15 : decode cX7_fewest 15 = .ok (.iload_n 1, 1) := by decide +kernel
theorem dX7_fewest_16 : decode cX7_fewest 16 = .ok (.invokevirtual 169, 3) := by decide +kernel
theorem dX7_fewest_19 : decode cX7_fewest 19 = .ok (.istore_n 2, 1) := by decide +kernel
theorem dX7_fewest_20 : decode cX7_fewest 20 = .ok (.iload_n 2, 1) := by decide +kernel
theorem dX7_fewest_21 : decode cX7_fewest 21 = .ok (.ldc 156, 2) := by decide +kernel
theorem dX7_fewest_23 : decode cX7_fewest 23 = .ok (.if_icmp .ne 7, 3) := by decide +kernel
theorem dX7_fewest_26 : decode cX7_fewest 26 = .ok (.iconst (-1), 1) := by decide +kernel
theorem dX7_fewest_27 : decode cX7_fewest 27 = .ok (.goto 7, 3) := by decide +kernel
theorem dX7_fewest_30 : decode cX7_fewest 30 = .ok (.iload_n 2, 1) := by decide +kernel
theorem dX7_fewest_31 : decode cX7_fewest 31 = .ok (.ldc 155, 2) := by decide +kernel
theorem dX7_fewest_33 : decode cX7_fewest 33 = .ok (.idiv, 1) := by decide +kernel
theorem dX7_fewest_34 : decode cX7_fewest 34 = .ok (.ireturn, 1) := by decide +kernel
theorem dX7_least_0 : decode cX7_least 0 = .ok (.iconst 1, 1) := by decide +kernel
theorem dX7_least_1 : decode cX7_least 1 = .ok (.istore_n 1, 1) := by decide +kernel
theorem dX7_least_2 : decode cX7_least 2 = .ok (.iload_n 1, 1) := by decide +kernel
theorem dX7_least_3 : decode cX7_least 3 = .ok (.bipush 18, 2) := by decide +kernel
theorem dX7_least_5 : decode cX7_least 5 = .ok (.if_icmp .gt 21, 3) := by decide +kernel
theorem dX7_least_8 : decode cX7_least 8 = .ok (.aload_n 0, 1) := by decide +kernel
theorem dX7_least_9 : decode cX7_least 9 = .ok (.iload_n 1, 1) := by decide +kernel
theorem dX7_least_10 : decode cX7_least 10 = .ok (.invokevirtual 169, 3) := by decide +kernel
theorem dX7_least_13 : decode cX7_least 13 = .ok (.ldc 156, 2) := by decide +kernel
theorem dX7_least_15 : decode cX7_least 15 = .ok (.if_icmp .eq 5, 3) := by decide +kernel
theorem dX7_least_18 : decode cX7_least 18 = .ok (.iload_n 1, 1) := by decide +kernel
theorem dX7_least_19 : decode cX7_least 19 = .ok (.ireturn, 1) := by decide +kernel
theorem dX7_least_20 : decode cX7_least 20 = .ok (.iinc 1 1, 3) := by decide +kernel
theorem dX7_least_23 : decode cX7_least 23 = .ok (.goto (-21), 3) := by decide +kernel
theorem dX7_least_26 : decode cX7_least 26 = .ok (.iconst (-1), 1) := by decide +kernel
theorem dX7_least_27 : decode cX7_least 27 = .ok (.ireturn, 1) := by decide +kernel
theorem dX7_plan_0 : decode cX7_plan 0 = .ok (.iload_n 1, 1) := by decide +kernel
theorem dX7_plan_1 : decode cX7_plan 1 = .ok (.iconst 1, 1) := by decide +kernel
theorem dX7_plan_2 : decode cX7_plan 2 = .ok (.if_icmp .lt 14, 3) := by decide +kernel
theorem dX7_plan_5 : decode cX7_plan 5 = .ok (.iload_n 1, 1) := by decide +kernel
theorem dX7_plan_6 : decode cX7_plan 6 = .ok (.bipush 18, 2) := by decide +kernel
theorem dX7_plan_8 : decode cX7_plan 8 = .ok (.if_icmp .gt 8, 3) := by decide +kernel
theorem dX7_plan_11 : decode cX7_plan 11 = .ok (.iload_n 2, 1) := by decide +kernel
theorem dX7_plan_12 : decode cX7_plan 12 = .ok (.iconst (-1), 1) := by decide +kernel
theorem dX7_plan_13 : decode cX7_plan 13 = .ok (.if_icmp .ge 6, 3) := by decide +kernel
theorem dX7_plan_16 : decode cX7_plan 16 = .ok (.bipush (-2), 2) := by decide +kernel
theorem dX7_plan_18 : decode cX7_plan 18 = .ok (.ireturn, 1) := by decide +kernel
theorem dX7_plan_19 : decode cX7_plan 19 = .ok (.aload_n 0, 1) := by decide +kernel
theorem dX7_plan_20 : decode cX7_plan 20 = .ok (.iload_n 1, 1) := by decide +kernel
theorem dX7_plan_21 : decode cX7_plan 21 = .ok (.invokevirtual 169, 3) := by decide +kernel
theorem dX7_plan_24 : decode cX7_plan 24 = .ok (.istore_n 3, 1) := by decide +kernel
theorem dX7_plan_25 : decode cX7_plan 25 = .ok (.iload_n 3, 1) := by decide +kernel
theorem dX7_plan_26 : decode cX7_plan 26 = .ok (.ldc 156, 2) := by decide +kernel
theorem dX7_plan_28 : decode cX7_plan 28 = .ok (.if_icmp .ne 5, 3) := by decide +kernel
theorem dX7_plan_31 : decode cX7_plan 31 = .ok (.iconst (-1), 1) := by decide +kernel
theorem dX7_plan_32 : decode cX7_plan 32 = .ok (.ireturn, 1) := by decide +kernel
theorem dX7_plan_33 : decode cX7_plan 33 = .ok (.aload_n 0, 1) := by decide +kernel
theorem dX7_plan_34 : decode cX7_plan 34 = .ok (.iload_n 1, 1) := by decide +kernel
theorem dX7_plan_35 : decode cX7_plan 35 = .ok (.iload_n 3, 1) := by decide +kernel
theorem dX7_plan_36 : decode cX7_plan 36 = .ok (.invokevirtual 172, 3) := by decide +kernel
theorem dX7_plan_39 : decode cX7_plan 39 = .ok (.iload_n 2, 1) := by decide +kernel
theorem dX7_plan_40 : decode cX7_plan 40 = .ok (.ifCond .ge 10, 3) := by decide +kernel
theorem dX7_plan_43 : decode cX7_plan 43 = .ok (.aload_n 0, 1) := by decide +kernel
theorem dX7_plan_44 : decode cX7_plan 44 = .ok (.getfield 166, 3) := by decide +kernel
theorem dX7_plan_47 : decode cX7_plan 47 = .ok (.goto 21, 3) := by decide +kernel
theorem dX7_plan_50 : decode cX7_plan 50 = .ok (.iload_n 2, 1) := by decide +kernel
theorem dX7_plan_51 : decode cX7_plan 51 = .ok (.aload_n 0, 1) := by decide +kernel
theorem dX7_plan_52 : decode cX7_plan 52 = .ok (.getfield 166, 3) := by decide +kernel
theorem dX7_plan_55 : decode cX7_plan 55 = .ok (.if_icmp .ge 12, 3) := by decide +kernel
theorem dX7_plan_58 : decode cX7_plan 58 = .ok (.aload_n 0, 1) := by decide +kernel
theorem dX7_plan_59 : decode cX7_plan 59 = .ok (.getfield 67, 3) := by decide +kernel
theorem dX7_plan_62 : decode cX7_plan 62 = .ok (.iload_n 2, 1) := by decide +kernel
theorem dX7_plan_63 : decode cX7_plan 63 = .ok (.iaload, 1) := by decide +kernel
theorem dX7_plan_64 : decode cX7_plan 64 = .ok (.goto 4, 3) := by decide +kernel
theorem dX7_plan_67 : decode cX7_plan 67 = .ok (.iconst (-1), 1) := by decide +kernel
theorem dX7_plan_68 : decode cX7_plan 68 = .ok (.ireturn, 1) := by decide +kernel
theorem dX7_reach_0 : decode cX7_reach 0 = .ok (.iload_n 1, 1) := by decide +kernel
theorem dX7_reach_1 : decode cX7_reach 1 = .ok (.iconst 1, 1) := by decide +kernel
theorem dX7_reach_2 : decode cX7_reach 2 = .ok (.if_icmp .lt 9, 3) := by decide +kernel
theorem dX7_reach_5 : decode cX7_reach 5 = .ok (.iload_n 1, 1) := by decide +kernel
theorem dX7_reach_6 : decode cX7_reach 6 = .ok (.bipush 18, 2) := by decide +kernel
theorem dX7_reach_8 : decode cX7_reach 8 = .ok (.if_icmp .le 6, 3) := by decide +kernel
theorem dX7_reach_11 : decode cX7_reach 11 = .ok (.bipush (-2), 2) := by decide +kernel
theorem dX7_reach_13 : decode cX7_reach 13 = .ok (.ireturn, 1) := by decide +kernel
theorem dX7_reach_14 : decode cX7_reach 14 = .ok (.aload_n 0, 1) := by decide +kernel
theorem dX7_reach_15 : decode cX7_reach 15 = .ok (.iload_n 1, 1) := by decide +kernel
theorem dX7_reach_16 : decode cX7_reach 16 = .ok (.invokevirtual 169, 3) := by decide +kernel
theorem dX7_reach_19 : decode cX7_reach 19 = .ok (.istore_n 2, 1) := by decide +kernel
theorem dX7_reach_20 : decode cX7_reach 20 = .ok (.iconst 0, 1) := by decide +kernel
theorem dX7_reach_21 : decode cX7_reach 21 = .ok (.istore_n 3, 1) := by decide +kernel
theorem dX7_reach_22 : decode cX7_reach 22 = .ok (.iconst 0, 1) := by decide +kernel
theorem dX7_reach_23 : decode cX7_reach 23 = .ok (.istore 4, 2) := by decide +kernel
theorem dX7_reach_25 : decode cX7_reach 25 = .ok (.iload 4, 2) := by decide +kernel
theorem dX7_reach_27 : decode cX7_reach 27 = .ok (.sipush 5120, 3) := by decide +kernel
theorem dX7_reach_30 : decode cX7_reach 30 = .ok (.if_icmp .ge 70, 3) := by decide +kernel
theorem dX7_reach_33 : decode cX7_reach 33 = .ok (.iconst 0, 1) := by decide +kernel
theorem dX7_reach_34 : decode cX7_reach 34 = .ok (.istore 5, 2) := by decide +kernel
theorem dX7_reach_36 : decode cX7_reach 36 = .ok (.iconst 0, 1) := by decide +kernel
theorem dX7_reach_37 : decode cX7_reach 37 = .ok (.istore 6, 2) := by decide +kernel
theorem dX7_reach_39 : decode cX7_reach 39 = .ok (.iload 6, 2) := by decide +kernel
theorem dX7_reach_41 : decode cX7_reach 41 = .ok (.bipush 8, 2) := by decide +kernel
theorem dX7_reach_43 : decode cX7_reach 43 = .ok (.if_icmp .ge 38, 3) := by decide +kernel
theorem dX7_reach_46 : decode cX7_reach 46 = .ok (.iload 5, 2) := by decide +kernel
theorem dX7_reach_48 : decode cX7_reach 48 = .ok (.aload_n 0, 1) := by decide +kernel
theorem dX7_reach_49 : decode cX7_reach 49 = .ok (.getfield 55, 3) := by decide +kernel
theorem dX7_reach_52 : decode cX7_reach 52 = .ok (.iload 4, 2) := by decide +kernel
theorem dX7_reach_54 : decode cX7_reach 54 = .ok (.sipush 5120, 3) := by decide +kernel
theorem dX7_reach_57 : decode cX7_reach 57 = .ok (.iload 6, 2) := by decide +kernel
theorem dX7_reach_59 : decode cX7_reach 59 = .ok (.imul, 1) := by decide +kernel
theorem dX7_reach_60 : decode cX7_reach 60 = .ok (.iadd, 1) := by decide +kernel
theorem dX7_reach_61 : decode cX7_reach 61 = .ok (.iaload, 1) := by decide +kernel
theorem dX7_reach_62 : decode cX7_reach 62 = .ok (.ldc 156, 2) := by decide +kernel
theorem dX7_reach_64 : decode cX7_reach 64 = .ok (.if_icmp .eq 7, 3) := by decide +kernel
theorem dX7_reach_67 : decode cX7_reach 67 = .ok (.iconst 1, 1) := by decide +kernel
theorem dX7_reach_68 : decode cX7_reach 68 = .ok (.goto 4, 3) := by decide +kernel
theorem dX7_reach_71 : decode cX7_reach 71 = .ok (.iconst 0, 1) := by decide +kernel
theorem dX7_reach_72 : decode cX7_reach 72 = .ok (.ior, 1) := by decide +kernel
theorem dX7_reach_73 : decode cX7_reach 73 = .ok (.istore 5, 2) := by decide +kernel
theorem dX7_reach_75 : decode cX7_reach 75 = .ok (.iinc 6 1, 3) := by decide +kernel
theorem dX7_reach_78 : decode cX7_reach 78 = .ok (.goto (-39), 3) := by decide +kernel
theorem dX7_reach_81 : decode cX7_reach 81 = .ok (.iload_n 3, 1) := by decide +kernel
theorem dX7_reach_82 : decode cX7_reach 82 = .ok (.iload 5, 2) := by decide +kernel
theorem dX7_reach_84 : decode cX7_reach 84 = .ok (.ifCond .eq 7, 3) := by decide +kernel
theorem dX7_reach_87 : decode cX7_reach 87 = .ok (.iconst 1, 1) := by decide +kernel
theorem dX7_reach_88 : decode cX7_reach 88 = .ok (.goto 4, 3) := by decide +kernel
theorem dX7_reach_91 : decode cX7_reach 91 = .ok (.iconst 0, 1) := by decide +kernel
theorem dX7_reach_92 : decode cX7_reach 92 = .ok (.iadd, 1) := by decide +kernel
theorem dX7_reach_93 : decode cX7_reach 93 = .ok (.istore_n 3, 1) := by decide +kernel
theorem dX7_reach_94 : decode cX7_reach 94 = .ok (.iinc 4 1, 3) := by decide +kernel
theorem dX7_reach_97 : decode cX7_reach 97 = .ok (.goto (-72), 3) := by decide +kernel
theorem dX7_reach_100 : decode cX7_reach 100 = .ok (.iload_n 3, 1) := by decide +kernel
theorem dX7_reach_101 : decode cX7_reach 101 = .ok (.ireturn, 1) := by decide +kernel
theorem dX7_isPlain_0 : decode cX7_isPlain 0 = .ok (.iconst 1, 1) := by decide +kernel
theorem dX7_isPlain_1 : decode cX7_isPlain 1 = .ok (.istore_n 1, 1) := by decide +kernel
theorem dX7_isPlain_2 : decode cX7_isPlain 2 = .ok (.iconst 0, 1) := by decide +kernel
theorem dX7_isPlain_3 : decode cX7_isPlain 3 = .ok (.istore_n 2, 1) := by decide +kernel
theorem dX7_isPlain_4 : decode cX7_isPlain 4 = .ok (.iload_n 2, 1) := by decide +kernel
theorem dX7_isPlain_5 : decode cX7_isPlain 5 = .ok (.aload_n 0, 1) := by decide +kernel
theorem dX7_isPlain_6 : decode cX7_isPlain 6 = .ok (.getfield 73, 3) := by decide +kernel
theorem dX7_isPlain_9 : decode cX7_isPlain 9 = .ok (.if_icmp .ge 37, 3) := by decide +kernel
theorem dX7_isPlain_12 : decode cX7_isPlain 12 = .ok (.iload_n 1, 1) := by decide +kernel
theorem dX7_isPlain_13 : decode cX7_isPlain 13 = .ok (.aload_n 0, 1) := by decide +kernel
theorem dX7_isPlain_14 : decode cX7_isPlain 14 = .ok (.getfield 9, 3) := by decide +kernel
theorem dX7_isPlain_17 : decode cX7_isPlain 17 = .ok (.iload_n 2, 1) := by decide +kernel
theorem dX7_isPlain_18 : decode cX7_isPlain 18 = .ok (.iaload, 1) := by decide +kernel
theorem dX7_isPlain_19 : decode cX7_isPlain 19 = .ok (.iconst 2, 1) := by decide +kernel
theorem dX7_isPlain_20 : decode cX7_isPlain 20 = .ok (.if_icmp .eq 17, 3) := by decide +kernel
theorem dX7_isPlain_23 : decode cX7_isPlain 23 = .ok (.aload_n 0, 1) := by decide +kernel
theorem dX7_isPlain_24 : decode cX7_isPlain 24 = .ok (.getfield 9, 3) := by decide +kernel
theorem dX7_isPlain_27 : decode cX7_isPlain 27 = .ok (.iload_n 2, 1) := by decide +kernel
theorem dX7_isPlain_28 : decode cX7_isPlain 28 = .ok (.iaload, 1) := by decide +kernel
theorem dX7_isPlain_29 : decode cX7_isPlain 29 = .ok (.iconst 4, 1) := by decide +kernel
theorem dX7_isPlain_30 : decode cX7_isPlain 30 = .ok (.if_icmp .eq 7, 3) := by decide +kernel
theorem dX7_isPlain_33 : decode cX7_isPlain 33 = .ok (.iconst 1, 1) := by decide +kernel
theorem dX7_isPlain_34 : decode cX7_isPlain 34 = .ok (.goto 4, 3) := by decide +kernel
theorem dX7_isPlain_37 : decode cX7_isPlain 37 = .ok (.iconst 0, 1) := by decide +kernel
theorem dX7_isPlain_38 : decode cX7_isPlain 38 = .ok (.iand, 1) := by decide +kernel
theorem dX7_isPlain_39 : decode cX7_isPlain 39 = .ok (.istore_n 1, 1) := by decide +kernel
theorem dX7_isPlain_40 : decode cX7_isPlain 40 = .ok (.iinc 2 1, 3) := by decide +kernel
theorem dX7_isPlain_43 : decode cX7_isPlain 43 = .ok (.goto (-39), 3) := by decide +kernel
theorem dX7_isPlain_46 : decode cX7_isPlain 46 = .ok (.iload_n 1, 1) := by decide +kernel
theorem dX7_isPlain_47 : decode cX7_isPlain 47 = .ok (.ireturn, 1) := by decide +kernel
theorem dX7_bitBehind_0 : decode cX7_bitBehind 0 = .ok (.aload_n 0, 1) := by decide +kernel
theorem dX7_bitBehind_1 : decode cX7_bitBehind 1 = .ok (.iload_n 1, 1) := by decide +kernel
theorem dX7_bitBehind_2 : decode cX7_bitBehind 2 = .ok (.sipush 512, 3) := by decide +kernel
theorem dX7_bitBehind_5 : decode cX7_bitBehind 5 = .ok (.irem, 1) := by decide +kernel
theorem dX7_bitBehind_6 : decode cX7_bitBehind 6 = .ok (.sipush 5120, 3) := by decide +kernel
theorem dX7_bitBehind_9 : decode cX7_bitBehind 9 = .ok (.iload_n 1, 1) := by decide +kernel
theorem dX7_bitBehind_10 : decode cX7_bitBehind 10 = .ok (.sipush 512, 3) := by decide +kernel
theorem dX7_bitBehind_13 : decode cX7_bitBehind 13 = .ok (.idiv, 1) := by decide +kernel
theorem dX7_bitBehind_14 : decode cX7_bitBehind 14 = .ok (.imul, 1) := by decide +kernel
theorem dX7_bitBehind_15 : decode cX7_bitBehind 15 = .ok (.iadd, 1) := by decide +kernel
theorem dX7_bitBehind_16 : decode cX7_bitBehind 16 = .ok (.iload_n 2, 1) := by decide +kernel
theorem dX7_bitBehind_17 : decode cX7_bitBehind 17 = .ok (.iload_n 3, 1) := by decide +kernel
theorem dX7_bitBehind_18 : decode cX7_bitBehind 18 = .ok (.invokevirtual 157, 3) := by decide +kernel
theorem dX7_bitBehind_21 : decode cX7_bitBehind 21 = .ok (.istore 4, 2) := by decide +kernel
theorem dX7_bitBehind_23 : decode cX7_bitBehind 23 = .ok (.iload 4, 2) := by decide +kernel
theorem dX7_bitBehind_25 : decode cX7_bitBehind 25 = .ok (.ifCond .ge 7, 3) := by decide +kernel
theorem dX7_bitBehind_28 : decode cX7_bitBehind 28 = .ok (.iconst (-1), 1) := by decide +kernel
theorem dX7_bitBehind_29 : decode cX7_bitBehind 29 = .ok (.goto 20, 3) := by decide +kernel
theorem dX7_bitBehind_32 : decode cX7_bitBehind 32 = .ok (.iload 4, 2) := by decide +kernel
theorem dX7_bitBehind_34 : decode cX7_bitBehind 34 = .ok (.sipush 512, 3) := by decide +kernel
theorem dX7_bitBehind_37 : decode cX7_bitBehind 37 = .ok (.irem, 1) := by decide +kernel
theorem dX7_bitBehind_38 : decode cX7_bitBehind 38 = .ok (.sipush 512, 3) := by decide +kernel
theorem dX7_bitBehind_41 : decode cX7_bitBehind 41 = .ok (.iload 4, 2) := by decide +kernel
theorem dX7_bitBehind_43 : decode cX7_bitBehind 43 = .ok (.sipush 5120, 3) := by decide +kernel
theorem dX7_bitBehind_46 : decode cX7_bitBehind 46 = .ok (.idiv, 1) := by decide +kernel
theorem dX7_bitBehind_47 : decode cX7_bitBehind 47 = .ok (.imul, 1) := by decide +kernel
theorem dX7_bitBehind_48 : decode cX7_bitBehind 48 = .ok (.iadd, 1) := by decide +kernel
theorem dX7_bitBehind_49 : decode cX7_bitBehind 49 = .ok (.ireturn, 1) := by decide +kernel
theorem dX7_row_0 : decode cX7_row 0 = .ok (.iload_n 1, 1) := by decide +kernel
theorem dX7_row_1 : decode cX7_row 1 = .ok (.iconst 1, 1) := by decide +kernel
theorem dX7_row_2 : decode cX7_row 2 = .ok (.if_icmp .lt 16, 3) := by decide +kernel
theorem dX7_row_5 : decode cX7_row 5 = .ok (.iload_n 1, 1) := by decide +kernel
theorem dX7_row_6 : decode cX7_row 6 = .ok (.bipush 18, 2) := by decide +kernel
theorem dX7_row_8 : decode cX7_row 8 = .ok (.if_icmp .gt 10, 3) := by decide +kernel
theorem dX7_row_11 : decode cX7_row 11 = .ok (.aload_n 0, 1) := by decide +kernel
theorem dX7_row_12 : decode cX7_row 12 = .ok (.invokevirtual 175, 3) := by decide +kernel
theorem dX7_row_15 : decode cX7_row 15 = .ok (.ifCond .ne 6, 3) := by decide +kernel
theorem dX7_row_18 : decode cX7_row 18 = .ok (.bipush (-2), 2) := by decide +kernel
theorem dX7_row_20 : decode cX7_row 20 = .ok (.ireturn, 1) := by decide +kernel
theorem dX7_row_21 : decode cX7_row 21 = .ok (.iconst 0, 1) := by decide +kernel
theorem dX7_row_22 : decode cX7_row 22 = .ok (.istore_n 2, 1) := by decide +kernel
theorem dX7_row_23 : decode cX7_row 23 = .ok (.iload_n 2, 1) := by decide +kernel
theorem dX7_row_24 : decode cX7_row 24 = .ok (.sipush 4096, 3) := by decide +kernel
theorem dX7_row_27 : decode cX7_row 27 = .ok (.if_icmp .ge 24, 3) := by decide +kernel
theorem dX7_row_30 : decode cX7_row 30 = .ok (.aload_n 0, 1) := by decide +kernel
theorem dX7_row_31 : decode cX7_row 31 = .ok (.getfield 32, 3) := by decide +kernel
theorem dX7_row_34 : decode cX7_row 34 = .ok (.iload_n 2, 1) := by decide +kernel
theorem dX7_row_35 : decode cX7_row 35 = .ok (.iload_n 2, 1) := by decide +kernel
theorem dX7_row_36 : decode cX7_row 36 = .ok (.ifCond .ne 7, 3) := by decide +kernel
theorem dX7_row_39 : decode cX7_row 39 = .ok (.iconst 1, 1) := by decide +kernel
theorem dX7_row_40 : decode cX7_row 40 = .ok (.goto 4, 3) := by decide +kernel
theorem dX7_row_43 : decode cX7_row 43 = .ok (.iconst 0, 1) := by decide +kernel
theorem dX7_row_44 : decode cX7_row 44 = .ok (.bastore, 1) := by decide +kernel
theorem dX7_row_45 : decode cX7_row 45 = .ok (.iinc 2 1, 3) := by decide +kernel
theorem dX7_row_48 : decode cX7_row 48 = .ok (.goto (-25), 3) := by decide +kernel
theorem dX7_row_51 : decode cX7_row 51 = .ok (.iconst 1, 1) := by decide +kernel
theorem dX7_row_52 : decode cX7_row 52 = .ok (.istore_n 2, 1) := by decide +kernel
theorem dX7_row_53 : decode cX7_row 53 = .ok (.iload_n 2, 1) := by decide +kernel
theorem dX7_row_54 : decode cX7_row 54 = .ok (.ifCond .eq 83, 3) := by decide +kernel
theorem dX7_row_57 : decode cX7_row 57 = .ok (.iconst 0, 1) := by decide +kernel
theorem dX7_row_58 : decode cX7_row 58 = .ok (.istore_n 2, 1) := by decide +kernel
theorem dX7_row_59 : decode cX7_row 59 = .ok (.iconst 0, 1) := by decide +kernel
theorem dX7_row_60 : decode cX7_row 60 = .ok (.istore_n 3, 1) := by decide +kernel
theorem dX7_row_61 : decode cX7_row 61 = .ok (.iload_n 3, 1) := by decide +kernel
theorem dX7_row_62 : decode cX7_row 62 = .ok (.sipush 4096, 3) := by decide +kernel
theorem dX7_row_65 : decode cX7_row 65 = .ok (.if_icmp .ge 69, 3) := by decide +kernel
theorem dX7_row_68 : decode cX7_row 68 = .ok (.iconst 0, 1) := by decide +kernel
theorem dX7_row_69 : decode cX7_row 69 = .ok (.istore 4, 2) := by decide +kernel
theorem dX7_row_71 : decode cX7_row 71 = .ok (.iload 4, 2) := by decide +kernel
theorem dX7_row_73 : decode cX7_row 73 = .ok (.bipush 18, 2) := by decide +kernel
theorem dX7_row_75 : decode cX7_row 75 = .ok (.if_icmp .ge 53, 3) := by decide +kernel
theorem dX7_row_78 : decode cX7_row 78 = .ok (.aload_n 0, 1) := by decide +kernel
theorem dX7_row_79 : decode cX7_row 79 = .ok (.getfield 32, 3) := by decide +kernel
theorem dX7_row_82 : decode cX7_row 82 = .ok (.iload_n 3, 1) := by decide +kernel
theorem dX7_row_83 : decode cX7_row 83 = .ok (.baload, 1) := by decide +kernel
theorem dX7_row_84 : decode cX7_row 84 = .ok (.ifCond .eq 44, 3) := by decide +kernel
theorem dX7_row_87 : decode cX7_row 87 = .ok (.aload_n 0, 1) := by decide +kernel
theorem dX7_row_88 : decode cX7_row 88 = .ok (.iload_n 3, 1) := by decide +kernel
theorem dX7_row_89 : decode cX7_row 89 = .ok (.iload 4, 2) := by decide +kernel
theorem dX7_row_91 : decode cX7_row 91 = .ok (.iload_n 1, 1) := by decide +kernel
theorem dX7_row_92 : decode cX7_row 92 = .ok (.invokevirtual 179, 3) := by decide +kernel
theorem dX7_row_95 : decode cX7_row 95 = .ok (.istore 5, 2) := by decide +kernel
theorem dX7_row_97 : decode cX7_row 97 = .ok (.iload 5, 2) := by decide +kernel
theorem dX7_row_99 : decode cX7_row 99 = .ok (.ifCond .lt 23, 3) := by decide +kernel
theorem dX7_row_102 : decode cX7_row 102 = .ok (.aload_n 0, 1) := by decide +kernel
theorem dX7_row_103 : decode cX7_row 103 = .ok (.getfield 32, 3) := by decide +kernel
theorem dX7_row_106 : decode cX7_row 106 = .ok (.iload 5, 2) := by decide +kernel
theorem dX7_row_108 : decode cX7_row 108 = .ok (.baload, 1) := by decide +kernel
theorem dX7_row_109 : decode cX7_row 109 = .ok (.ifCond .ne 13, 3) := by decide +kernel
theorem dX7_row_112 : decode cX7_row 112 = .ok (.aload_n 0, 1) := by decide +kernel
theorem dX7_row_113 : decode cX7_row 113 = .ok (.getfield 32, 3) := by decide +kernel
theorem dX7_row_116 : decode cX7_row 116 = .ok (.iload 5, 2) := by decide +kernel
theorem dX7_row_118 : decode cX7_row 118 = .ok (.iconst 1, 1) := by decide +kernel
theorem dX7_row_119 : decode cX7_row 119 = .ok (.bastore, 1) := by decide +kernel
theorem dX7_row_120 : decode cX7_row 120 = .ok (.iconst 1, 1) := by decide +kernel
theorem dX7_row_121 : decode cX7_row 121 = .ok (.istore_n 2, 1) := by decide +kernel
theorem dX7_row_122 : decode cX7_row 122 = .ok (.iinc 4 1, 3) := by decide +kernel
theorem dX7_row_125 : decode cX7_row 125 = .ok (.goto (-54), 3) := by decide +kernel
theorem dX7_row_128 : decode cX7_row 128 = .ok (.iinc 3 1, 3) := by decide +kernel
theorem dX7_row_131 : decode cX7_row 131 = .ok (.goto (-70), 3) := by decide +kernel
theorem dX7_row_134 : decode cX7_row 134 = .ok (.goto (-81), 3) := by decide +kernel
theorem dX7_row_137 : decode cX7_row 137 = .ok (.aload_n 0, 1) := by decide +kernel
theorem dX7_row_138 : decode cX7_row 138 = .ok (.invokevirtual 146, 3) := by decide +kernel
theorem dX7_row_141 : decode cX7_row 141 = .ok (.ireturn, 1) := by decide +kernel
theorem dX7_bit_0 : decode cX7_bit 0 = .ok (.iload_n 1, 1) := by decide +kernel
theorem dX7_bit_1 : decode cX7_bit 1 = .ok (.ifCond .lt 10, 3) := by decide +kernel
theorem dX7_bit_4 : decode cX7_bit 4 = .ok (.iload_n 1, 1) := by decide +kernel
theorem dX7_bit_5 : decode cX7_bit 5 = .ok (.sipush 4096, 3) := by decide +kernel
theorem dX7_bit_8 : decode cX7_bit 8 = .ok (.if_icmp .lt 8, 3) := by decide +kernel
theorem dX7_bit_11 : decode cX7_bit 11 = .ok (.bipush (-2), 2) := by decide +kernel
theorem dX7_bit_13 : decode cX7_bit 13 = .ok (.goto 17, 3) := by decide +kernel
theorem dX7_bit_16 : decode cX7_bit 16 = .ok (.aload_n 0, 1) := by decide +kernel
theorem dX7_bit_17 : decode cX7_bit 17 = .ok (.getfield 32, 3) := by decide +kernel
theorem dX7_bit_20 : decode cX7_bit 20 = .ok (.iload_n 1, 1) := by decide +kernel
theorem dX7_bit_21 : decode cX7_bit 21 = .ok (.baload, 1) := by decide +kernel
theorem dX7_bit_22 : decode cX7_bit 22 = .ok (.ifCond .eq 7, 3) := by decide +kernel
theorem dX7_bit_25 : decode cX7_bit 25 = .ok (.iconst 1, 1) := by decide +kernel
theorem dX7_bit_26 : decode cX7_bit 26 = .ok (.goto 4, 3) := by decide +kernel
theorem dX7_bit_29 : decode cX7_bit 29 = .ok (.iconst 0, 1) := by decide +kernel
theorem dX7_bit_30 : decode cX7_bit 30 = .ok (.ireturn, 1) := by decide +kernel
theorem dX7_flip_0 : decode cX7_flip 0 = .ok (.iload_n 1, 1) := by decide +kernel
theorem dX7_flip_1 : decode cX7_flip 1 = .ok (.ifCond .lt 10, 3) := by decide +kernel
theorem dX7_flip_4 : decode cX7_flip 4 = .ok (.iload_n 1, 1) := by decide +kernel
theorem dX7_flip_5 : decode cX7_flip 5 = .ok (.sipush 4096, 3) := by decide +kernel
theorem dX7_flip_8 : decode cX7_flip 8 = .ok (.if_icmp .lt 6, 3) := by decide +kernel
theorem dX7_flip_11 : decode cX7_flip 11 = .ok (.bipush (-2), 2) := by decide +kernel
theorem dX7_flip_13 : decode cX7_flip 13 = .ok (.ireturn, 1) := by decide +kernel
theorem dX7_flip_14 : decode cX7_flip 14 = .ok (.aload_n 0, 1) := by decide +kernel
theorem dX7_flip_15 : decode cX7_flip 15 = .ok (.getfield 32, 3) := by decide +kernel
theorem dX7_flip_18 : decode cX7_flip 18 = .ok (.iload_n 1, 1) := by decide +kernel
theorem dX7_flip_19 : decode cX7_flip 19 = .ok (.aload_n 0, 1) := by decide +kernel
theorem dX7_flip_20 : decode cX7_flip 20 = .ok (.getfield 32, 3) := by decide +kernel
theorem dX7_flip_23 : decode cX7_flip 23 = .ok (.iload_n 1, 1) := by decide +kernel
theorem dX7_flip_24 : decode cX7_flip 24 = .ok (.baload, 1) := by decide +kernel
theorem dX7_flip_25 : decode cX7_flip 25 = .ok (.ifCond .ne 7, 3) := by decide +kernel
theorem dX7_flip_28 : decode cX7_flip 28 = .ok (.iconst 1, 1) := by decide +kernel
theorem dX7_flip_29 : decode cX7_flip 29 = .ok (.goto 4, 3) := by decide +kernel
theorem dX7_flip_32 : decode cX7_flip 32 = .ok (.iconst 0, 1) := by decide +kernel
theorem dX7_flip_33 : decode cX7_flip 33 = .ok (.bastore, 1) := by decide +kernel
theorem dX7_flip_34 : decode cX7_flip 34 = .ok (.aload_n 0, 1) := by decide +kernel
theorem dX7_flip_35 : decode cX7_flip 35 = .ok (.getfield 32, 3) := by decide +kernel
theorem dX7_flip_38 : decode cX7_flip 38 = .ok (.iload_n 1, 1) := by decide +kernel
theorem dX7_flip_39 : decode cX7_flip 39 = .ok (.baload, 1) := by decide +kernel
theorem dX7_flip_40 : decode cX7_flip 40 = .ok (.ifCond .eq 7, 3) := by decide +kernel
theorem dX7_flip_43 : decode cX7_flip 43 = .ok (.iconst 1, 1) := by decide +kernel
theorem dX7_flip_44 : decode cX7_flip 44 = .ok (.goto 4, 3) := by decide +kernel
theorem dX7_flip_47 : decode cX7_flip 47 = .ok (.iconst 0, 1) := by decide +kernel
theorem dX7_flip_48 : decode cX7_flip 48 = .ok (.ireturn, 1) := by decide +kernel
theorem dX7_faultOf_0 : decode cX7_faultOf 0 = .ok (.iload_n 1, 1) := by decide +kernel
theorem dX7_faultOf_1 : decode cX7_faultOf 1 = .ok (.sipush 512, 3) := by decide +kernel
theorem dX7_faultOf_4 : decode cX7_faultOf 4 = .ok (.irem, 1) := by decide +kernel
theorem dX7_faultOf_5 : decode cX7_faultOf 5 = .ok (.istore_n 3, 1) := by decide +kernel
theorem dX7_faultOf_6 : decode cX7_faultOf 6 = .ok (.iload_n 1, 1) := by decide +kernel
theorem dX7_faultOf_7 : decode cX7_faultOf 7 = .ok (.sipush 512, 3) := by decide +kernel
theorem dX7_faultOf_10 : decode cX7_faultOf 10 = .ok (.idiv, 1) := by decide +kernel
theorem dX7_faultOf_11 : decode cX7_faultOf 11 = .ok (.istore 4, 2) := by decide +kernel
theorem dX7_faultOf_13 : decode cX7_faultOf 13 = .ok (.iconst 1, 1) := by decide +kernel
theorem dX7_faultOf_14 : decode cX7_faultOf 14 = .ok (.aload_n 0, 1) := by decide +kernel
theorem dX7_faultOf_15 : decode cX7_faultOf 15 = .ok (.getfield 119, 3) := by decide +kernel
theorem dX7_faultOf_18 : decode cX7_faultOf 18 = .ok (.ishl, 1) := by decide +kernel
theorem dX7_faultOf_19 : decode cX7_faultOf 19 = .ok (.iconst 1, 1) := by decide +kernel
theorem dX7_faultOf_20 : decode cX7_faultOf 20 = .ok (.isub, 1) := by decide +kernel
theorem dX7_faultOf_21 : decode cX7_faultOf 21 = .ok (.istore 5, 2) := by decide +kernel
theorem dX7_faultOf_23 : decode cX7_faultOf 23 = .ok (.aload_n 0, 1) := by decide +kernel
theorem dX7_faultOf_24 : decode cX7_faultOf 24 = .ok (.getfield 122, 3) := by decide +kernel
theorem dX7_faultOf_27 : decode cX7_faultOf 27 = .ok (.ifCond .eq 14, 3) := by decide +kernel
theorem dX7_faultOf_30 : decode cX7_faultOf 30 = .ok (.aload_n 0, 1) := by decide +kernel
theorem dX7_faultOf_31 : decode cX7_faultOf 31 = .ok (.iload_n 3, 1) := by decide +kernel
theorem dX7_faultOf_32 : decode cX7_faultOf 32 = .ok (.invokevirtual 149, 3) := by decide +kernel
theorem dX7_faultOf_35 : decode cX7_faultOf 35 = .ok (.ifCond .eq 18, 3) := by decide +kernel
theorem dX7_faultOf_38 : decode cX7_faultOf 38 = .ok (.goto 13, 3) := by decide +kernel
theorem dX7_faultOf_41 : decode cX7_faultOf 41 = .ok (.iload 4, 2) := by decide +kernel
theorem dX7_faultOf_43 : decode cX7_faultOf 43 = .ok (.iload 5, 2) := by decide +kernel
theorem dX7_faultOf_45 : decode cX7_faultOf 45 = .ok (.iand, 1) := by decide +kernel
theorem dX7_faultOf_46 : decode cX7_faultOf 46 = .ok (.iload 5, 2) := by decide +kernel
theorem dX7_faultOf_48 : decode cX7_faultOf 48 = .ok (.if_icmp .ne 5, 3) := by decide +kernel
theorem dX7_faultOf_51 : decode cX7_faultOf 51 = .ok (.iconst 2, 1) := by decide +kernel
theorem dX7_faultOf_52 : decode cX7_faultOf 52 = .ok (.ireturn, 1) := by decide +kernel
theorem dX7_faultOf_53 : decode cX7_faultOf 53 = .ok (.iload_n 3, 1) := by decide +kernel
theorem dX7_faultOf_54 : decode cX7_faultOf 54 = .ok (.iconst 1, 1) := by decide +kernel
theorem dX7_faultOf_55 : decode cX7_faultOf 55 = .ok (.aload_n 0, 1) := by decide +kernel
theorem dX7_faultOf_56 : decode cX7_faultOf 56 = .ok (.getfield 73, 3) := by decide +kernel
theorem dX7_faultOf_59 : decode cX7_faultOf 59 = .ok (.ishl, 1) := by decide +kernel
theorem dX7_faultOf_60 : decode cX7_faultOf 60 = .ok (.if_icmp .ge 25, 3) := by decide +kernel
theorem dX7_faultOf_63 : decode cX7_faultOf 63 = .ok (.aload_n 0, 1) := by decide +kernel
theorem dX7_faultOf_64 : decode cX7_faultOf 64 = .ok (.getfield 122, 3) := by decide +kernel
theorem dX7_faultOf_67 : decode cX7_faultOf 67 = .ok (.ifCond .eq 11, 3) := by decide +kernel
theorem dX7_faultOf_70 : decode cX7_faultOf 70 = .ok (.iload 4, 2) := by decide +kernel
theorem dX7_faultOf_72 : decode cX7_faultOf 72 = .ok (.ifCond .eq 15, 3) := by decide +kernel
theorem dX7_faultOf_75 : decode cX7_faultOf 75 = .ok (.goto 10, 3) := by decide +kernel
theorem dX7_faultOf_78 : decode cX7_faultOf 78 = .ok (.iload 4, 2) := by decide +kernel
theorem dX7_faultOf_80 : decode cX7_faultOf 80 = .ok (.iload 5, 2) := by decide +kernel
theorem dX7_faultOf_82 : decode cX7_faultOf 82 = .ok (.if_icmp .le 5, 3) := by decide +kernel
theorem dX7_faultOf_85 : decode cX7_faultOf 85 = .ok (.iconst 3, 1) := by decide +kernel
theorem dX7_faultOf_86 : decode cX7_faultOf 86 = .ok (.ireturn, 1) := by decide +kernel
theorem dX7_faultOf_87 : decode cX7_faultOf 87 = .ok (.iconst 0, 1) := by decide +kernel
theorem dX7_faultOf_88 : decode cX7_faultOf 88 = .ok (.istore 6, 2) := by decide +kernel
theorem dX7_faultOf_90 : decode cX7_faultOf 90 = .ok (.iload 6, 2) := by decide +kernel
theorem dX7_faultOf_92 : decode cX7_faultOf 92 = .ok (.bipush 18, 2) := by decide +kernel
theorem dX7_faultOf_94 : decode cX7_faultOf 94 = .ok (.if_icmp .ge 36, 3) := by decide +kernel
theorem dX7_faultOf_97 : decode cX7_faultOf 97 = .ok (.aload_n 0, 1) := by decide +kernel
theorem dX7_faultOf_98 : decode cX7_faultOf 98 = .ok (.iload_n 1, 1) := by decide +kernel
theorem dX7_faultOf_99 : decode cX7_faultOf 99 = .ok (.iload 6, 2) := by decide +kernel
theorem dX7_faultOf_101 : decode cX7_faultOf 101 = .ok (.iload_n 2, 1) := by decide +kernel
theorem dX7_faultOf_102 : decode cX7_faultOf 102 = .ok (.invokevirtual 179, 3) := by decide +kernel
theorem dX7_faultOf_105 : decode cX7_faultOf 105 = .ok (.istore 7, 2) := by decide +kernel
theorem dX7_faultOf_107 : decode cX7_faultOf 107 = .ok (.iload 7, 2) := by decide +kernel
theorem dX7_faultOf_109 : decode cX7_faultOf 109 = .ok (.ifCond .lt 15, 3) := by decide +kernel
theorem dX7_faultOf_112 : decode cX7_faultOf 112 = .ok (.aload_n 0, 1) := by decide +kernel
theorem dX7_faultOf_113 : decode cX7_faultOf 113 = .ok (.getfield 32, 3) := by decide +kernel
theorem dX7_faultOf_116 : decode cX7_faultOf 116 = .ok (.iload 7, 2) := by decide +kernel
theorem dX7_faultOf_118 : decode cX7_faultOf 118 = .ok (.baload, 1) := by decide +kernel
theorem dX7_faultOf_119 : decode cX7_faultOf 119 = .ok (.ifCond .ne 5, 3) := by decide +kernel
theorem dX7_faultOf_122 : decode cX7_faultOf 122 = .ok (.iconst 4, 1) := by decide +kernel
theorem dX7_faultOf_123 : decode cX7_faultOf 123 = .ok (.ireturn, 1) := by decide +kernel
theorem dX7_faultOf_124 : decode cX7_faultOf 124 = .ok (.iinc 6 1, 3) := by decide +kernel
theorem dX7_faultOf_127 : decode cX7_faultOf 127 = .ok (.goto (-37), 3) := by decide +kernel
theorem dX7_faultOf_130 : decode cX7_faultOf 130 = .ok (.iconst 0, 1) := by decide +kernel
theorem dX7_faultOf_131 : decode cX7_faultOf 131 = .ok (.ireturn, 1) := by decide +kernel
theorem dX7_check_0 : decode cX7_check 0 = .ok (.iload_n 1, 1) := by decide +kernel
theorem dX7_check_1 : decode cX7_check 1 = .ok (.iconst 1, 1) := by decide +kernel
theorem dX7_check_2 : decode cX7_check 2 = .ok (.if_icmp .lt 16, 3) := by decide +kernel
theorem dX7_check_5 : decode cX7_check 5 = .ok (.iload_n 1, 1) := by decide +kernel
theorem dX7_check_6 : decode cX7_check 6 = .ok (.bipush 18, 2) := by decide +kernel
theorem dX7_check_8 : decode cX7_check 8 = .ok (.if_icmp .gt 10, 3) := by decide +kernel
theorem dX7_check_11 : decode cX7_check 11 = .ok (.aload_n 0, 1) := by decide +kernel
theorem dX7_check_12 : decode cX7_check 12 = .ok (.invokevirtual 175, 3) := by decide +kernel
theorem dX7_check_15 : decode cX7_check 15 = .ok (.ifCond .ne 6, 3) := by decide +kernel
theorem dX7_check_18 : decode cX7_check 18 = .ok (.bipush (-2), 2) := by decide +kernel
theorem dX7_check_20 : decode cX7_check 20 = .ok (.ireturn, 1) := by decide +kernel
theorem dX7_check_21 : decode cX7_check 21 = .ok (.aload_n 0, 1) := by decide +kernel
theorem dX7_check_22 : decode cX7_check 22 = .ok (.iconst 0, 1) := by decide +kernel
theorem dX7_check_23 : decode cX7_check 23 = .ok (.putfield 48, 3) := by decide +kernel
theorem dX7_check_26 : decode cX7_check 26 = .ok (.aload_n 0, 1) := by decide +kernel
theorem dX7_check_27 : decode cX7_check 27 = .ok (.getfield 32, 3) := by decide +kernel
theorem dX7_check_30 : decode cX7_check 30 = .ok (.iconst 0, 1) := by decide +kernel
theorem dX7_check_31 : decode cX7_check 31 = .ok (.baload, 1) := by decide +kernel
theorem dX7_check_32 : decode cX7_check 32 = .ok (.ifCond .ne 5, 3) := by decide +kernel
theorem dX7_check_35 : decode cX7_check 35 = .ok (.iconst 1, 1) := by decide +kernel
theorem dX7_check_36 : decode cX7_check 36 = .ok (.ireturn, 1) := by decide +kernel
theorem dX7_check_37 : decode cX7_check 37 = .ok (.aload_n 0, 1) := by decide +kernel
theorem dX7_check_38 : decode cX7_check 38 = .ok (.iconst 0, 1) := by decide +kernel
theorem dX7_check_39 : decode cX7_check 39 = .ok (.putfield 48, 3) := by decide +kernel
theorem dX7_check_42 : decode cX7_check 42 = .ok (.aload_n 0, 1) := by decide +kernel
theorem dX7_check_43 : decode cX7_check 43 = .ok (.getfield 48, 3) := by decide +kernel
theorem dX7_check_46 : decode cX7_check 46 = .ok (.sipush 4096, 3) := by decide +kernel
theorem dX7_check_49 : decode cX7_check 49 = .ok (.if_icmp .ge 48, 3) := by decide +kernel
theorem dX7_check_52 : decode cX7_check 52 = .ok (.aload_n 0, 1) := by decide +kernel
theorem dX7_check_53 : decode cX7_check 53 = .ok (.getfield 32, 3) := by decide +kernel
theorem dX7_check_56 : decode cX7_check 56 = .ok (.aload_n 0, 1) := by decide +kernel
theorem dX7_check_57 : decode cX7_check 57 = .ok (.getfield 48, 3) := by decide +kernel
theorem dX7_check_60 : decode cX7_check 60 = .ok (.baload, 1) := by decide +kernel
theorem dX7_check_61 : decode cX7_check 61 = .ok (.ifCond .eq 15, 3) := by decide +kernel
theorem dX7_check_64 : decode cX7_check 64 = .ok (.aload_n 0, 1) := by decide +kernel
theorem dX7_check_65 : decode cX7_check 65 = .ok (.aload_n 0, 1) := by decide +kernel
theorem dX7_check_66 : decode cX7_check 66 = .ok (.getfield 48, 3) := by decide +kernel
theorem dX7_check_69 : decode cX7_check 69 = .ok (.iload_n 1, 1) := by decide +kernel
theorem dX7_check_70 : decode cX7_check 70 = .ok (.invokevirtual 182, 3) := by decide +kernel
theorem dX7_check_73 : decode cX7_check 73 = .ok (.goto 4, 3) := by decide +kernel
theorem dX7_check_76 : decode cX7_check 76 = .ok (.iconst 0, 1) := by decide +kernel
theorem dX7_check_77 : decode cX7_check 77 = .ok (.istore_n 2, 1) := by decide +kernel
theorem dX7_check_78 : decode cX7_check 78 = .ok (.iload_n 2, 1) := by decide +kernel
theorem dX7_check_79 : decode cX7_check 79 = .ok (.ifCond .eq 5, 3) := by decide +kernel
theorem dX7_check_82 : decode cX7_check 82 = .ok (.iload_n 2, 1) := by decide +kernel
theorem dX7_check_83 : decode cX7_check 83 = .ok (.ireturn, 1) := by decide +kernel
theorem dX7_check_84 : decode cX7_check 84 = .ok (.aload_n 0, 1) := by decide +kernel
theorem dX7_check_85 : decode cX7_check 85 = .ok (.dup, 1) := by decide +kernel
theorem dX7_check_86 : decode cX7_check 86 = .ok (.getfield 48, 3) := by decide +kernel
theorem dX7_check_89 : decode cX7_check 89 = .ok (.iconst 1, 1) := by decide +kernel
theorem dX7_check_90 : decode cX7_check 90 = .ok (.iadd, 1) := by decide +kernel
theorem dX7_check_91 : decode cX7_check 91 = .ok (.putfield 48, 3) := by decide +kernel
theorem dX7_check_94 : decode cX7_check 94 = .ok (.goto (-52), 3) := by decide +kernel
theorem dX7_check_97 : decode cX7_check 97 = .ok (.aload_n 0, 1) := by decide +kernel
theorem dX7_check_98 : decode cX7_check 98 = .ok (.iconst (-1), 1) := by decide +kernel
theorem dX7_check_99 : decode cX7_check 99 = .ok (.putfield 48, 3) := by decide +kernel
theorem dX7_check_102 : decode cX7_check 102 = .ok (.iconst 0, 1) := by decide +kernel
theorem dX7_check_103 : decode cX7_check 103 = .ok (.ireturn, 1) := by decide +kernel
theorem dX7_where_0 : decode cX7_where 0 = .ok (.aload_n 0, 1) := by decide +kernel
theorem dX7_where_1 : decode cX7_where 1 = .ok (.getfield 48, 3) := by decide +kernel
theorem dX7_where_4 : decode cX7_where 4 = .ok (.ireturn, 1) := by decide +kernel
