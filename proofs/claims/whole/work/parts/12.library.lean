theorem xd_L_has_0 : decode xb_L_has 0 = .ok (.iload_n 1, 1) := by decide +kernel
theorem xd_L_has_1 : decode xb_L_has 1 = .ok (.invokestatic 18, 3) := by decide +kernel
theorem xd_L_has_4 : decode xb_L_has 4 = .ok (.ifCond .eq 19, 3) := by decide +kernel
theorem xd_L_has_7 : decode xb_L_has 7 = .ok (.aload_n 0, 1) := by decide +kernel
theorem xd_L_has_8 : decode xb_L_has 8 = .ok (.getfield 11, 3) := by decide +kernel
theorem xd_L_has_11 : decode xb_L_has 11 = .ok (.iload_n 1, 1) := by decide +kernel
theorem xd_L_has_12 : decode xb_L_has 12 = .ok (.aaload, 1) := by decide +kernel
theorem xd_L_has_13 : decode xb_L_has 13 = .ok (.getfield 22, 3) := by decide +kernel
theorem xd_L_has_16 : decode xb_L_has 16 = .ok (.ifCond .eq 7, 3) := by decide +kernel
theorem xd_L_has_19 : decode xb_L_has 19 = .ok (.iconst 1, 1) := by decide +kernel
theorem xd_L_has_20 : decode xb_L_has 20 = .ok (.goto 4, 3) := by decide +kernel
theorem xd_L_has_23 : decode xb_L_has 23 = .ok (.iconst 0, 1) := by decide +kernel
theorem xd_L_has_24 : decode xb_L_has 24 = .ok (.ireturn, 1) := by decide +kernel
theorem xd_L_held_0 : decode xb_L_held 0 = .ok (.iconst 0, 1) := by decide +kernel
theorem xd_L_held_1 : decode xb_L_held 1 = .ok (.istore_n 1, 1) := by decide +kernel
theorem xd_L_held_2 : decode xb_L_held 2 = .ok (.iconst 0, 1) := by decide +kernel
theorem xd_L_held_3 : decode xb_L_held 3 = .ok (.istore_n 2, 1) := by decide +kernel
theorem xd_L_held_4 : decode xb_L_held 4 = .ok (.iload_n 2, 1) := by decide +kernel
theorem xd_L_held_5 : decode xb_L_held 5 = .ok (.bipush 6, 2) := by decide +kernel
theorem xd_L_held_7 : decode xb_L_held 7 = .ok (.if_icmp .ge 25, 3) := by decide +kernel
theorem xd_L_held_10 : decode xb_L_held 10 = .ok (.iload_n 1, 1) := by decide +kernel
theorem xd_L_held_11 : decode xb_L_held 11 = .ok (.aload_n 0, 1) := by decide +kernel
theorem xd_L_held_12 : decode xb_L_held 12 = .ok (.iload_n 2, 1) := by decide +kernel
theorem xd_L_held_13 : decode xb_L_held 13 = .ok (.invokevirtual 26, 3) := by decide +kernel
theorem xd_L_held_16 : decode xb_L_held 16 = .ok (.ifCond .eq 7, 3) := by decide +kernel
theorem xd_L_held_19 : decode xb_L_held 19 = .ok (.iconst 1, 1) := by decide +kernel
theorem xd_L_held_20 : decode xb_L_held 20 = .ok (.goto 4, 3) := by decide +kernel
theorem xd_L_held_23 : decode xb_L_held 23 = .ok (.iconst 0, 1) := by decide +kernel
theorem xd_L_held_24 : decode xb_L_held 24 = .ok (.iadd, 1) := by decide +kernel
theorem xd_L_held_25 : decode xb_L_held 25 = .ok (.istore_n 1, 1) := by decide +kernel
theorem xd_L_held_26 : decode xb_L_held 26 = .ok (.iinc 2 1, 3) := by decide +kernel
theorem xd_L_held_29 : decode xb_L_held 29 = .ok (.goto (-25), 3) := by decide +kernel
theorem xd_L_held_32 : decode xb_L_held 32 = .ok (.iload_n 1, 1) := by decide +kernel
theorem xd_L_held_33 : decode xb_L_held 33 = .ok (.ireturn, 1) := by decide +kernel
theorem xd_L_argumentsOf_0 : decode xb_L_argumentsOf 0 = .ok (.iload_n 3, 1) := by decide +kernel
theorem xd_L_argumentsOf_1 : decode xb_L_argumentsOf 1 = .ok (.iload_n 2, 1) := by decide +kernel
theorem xd_L_argumentsOf_2 : decode xb_L_argumentsOf 2 = .ok (.if_icmp .ne 10, 3) := by decide +kernel
theorem xd_L_argumentsOf_5 : decode xb_L_argumentsOf 5 = .ok (.aload_n 1, 1) := by decide +kernel
theorem xd_L_argumentsOf_6 : decode xb_L_argumentsOf 6 = .ok (.iload 4, 2) := by decide +kernel
theorem xd_L_argumentsOf_8 : decode xb_L_argumentsOf 8 = .ok (.invokevirtual 67, 3) := by decide +kernel
theorem xd_L_argumentsOf_11 : decode xb_L_argumentsOf 11 = .ok (.ireturn, 1) := by decide +kernel
theorem xd_L_argumentsOf_12 : decode xb_L_argumentsOf 12 = .ok (.aload_n 0, 1) := by decide +kernel
theorem xd_L_argumentsOf_13 : decode xb_L_argumentsOf 13 = .ok (.iload_n 3, 1) := by decide +kernel
theorem xd_L_argumentsOf_14 : decode xb_L_argumentsOf 14 = .ok (.invokevirtual 26, 3) := by decide +kernel
theorem xd_L_argumentsOf_17 : decode xb_L_argumentsOf 17 = .ok (.ifCond .eq 20, 3) := by decide +kernel
theorem xd_L_argumentsOf_20 : decode xb_L_argumentsOf 20 = .ok (.aload_n 0, 1) := by decide +kernel
theorem xd_L_argumentsOf_21 : decode xb_L_argumentsOf 21 = .ok (.getfield 11, 3) := by decide +kernel
theorem xd_L_argumentsOf_24 : decode xb_L_argumentsOf 24 = .ok (.iload_n 3, 1) := by decide +kernel
theorem xd_L_argumentsOf_25 : decode xb_L_argumentsOf 25 = .ok (.aaload, 1) := by decide +kernel
theorem xd_L_argumentsOf_26 : decode xb_L_argumentsOf 26 = .ok (.getfield 73, 3) := by decide +kernel
theorem xd_L_argumentsOf_29 : decode xb_L_argumentsOf 29 = .ok (.iload 4, 2) := by decide +kernel
theorem xd_L_argumentsOf_31 : decode xb_L_argumentsOf 31 = .ok (.invokevirtual 67, 3) := by decide +kernel
theorem xd_L_argumentsOf_34 : decode xb_L_argumentsOf 34 = .ok (.goto 4, 3) := by decide +kernel
theorem xd_L_argumentsOf_37 : decode xb_L_argumentsOf 37 = .ok (.iconst (-1), 1) := by decide +kernel
theorem xd_L_argumentsOf_38 : decode xb_L_argumentsOf 38 = .ok (.ireturn, 1) := by decide +kernel
theorem xd_L_partsOf_0 : decode xb_L_partsOf 0 = .ok (.aload_n 1, 1) := by decide +kernel
theorem xd_L_partsOf_1 : decode xb_L_partsOf 1 = .ok (.getfield 64, 3) := by decide +kernel
theorem xd_L_partsOf_4 : decode xb_L_partsOf 4 = .ok (.iload_n 3, 1) := by decide +kernel
theorem xd_L_partsOf_5 : decode xb_L_partsOf 5 = .ok (.iaload, 1) := by decide +kernel
theorem xd_L_partsOf_6 : decode xb_L_partsOf 6 = .ok (.istore 4, 2) := by decide +kernel
theorem xd_L_partsOf_8 : decode xb_L_partsOf 8 = .ok (.iload 4, 2) := by decide +kernel
theorem xd_L_partsOf_10 : decode xb_L_partsOf 10 = .ok (.bipush 11, 2) := by decide +kernel
theorem xd_L_partsOf_12 : decode xb_L_partsOf 12 = .ok (.if_icmp .ne 24, 3) := by decide +kernel
theorem xd_L_partsOf_15 : decode xb_L_partsOf 15 = .ok (.aload_n 0, 1) := by decide +kernel
theorem xd_L_partsOf_16 : decode xb_L_partsOf 16 = .ok (.aload_n 1, 1) := by decide +kernel
theorem xd_L_partsOf_17 : decode xb_L_partsOf 17 = .ok (.iload_n 2, 1) := by decide +kernel
theorem xd_L_partsOf_18 : decode xb_L_partsOf 18 = .ok (.aload_n 1, 1) := by decide +kernel
theorem xd_L_partsOf_19 : decode xb_L_partsOf 19 = .ok (.getfield 57, 3) := by decide +kernel
theorem xd_L_partsOf_22 : decode xb_L_partsOf 22 = .ok (.iload_n 3, 1) := by decide +kernel
theorem xd_L_partsOf_23 : decode xb_L_partsOf 23 = .ok (.iaload, 1) := by decide +kernel
theorem xd_L_partsOf_24 : decode xb_L_partsOf 24 = .ok (.aload_n 1, 1) := by decide +kernel
theorem xd_L_partsOf_25 : decode xb_L_partsOf 25 = .ok (.getfield 61, 3) := by decide +kernel
theorem xd_L_partsOf_28 : decode xb_L_partsOf 28 = .ok (.iload_n 3, 1) := by decide +kernel
theorem xd_L_partsOf_29 : decode xb_L_partsOf 29 = .ok (.iaload, 1) := by decide +kernel
theorem xd_L_partsOf_30 : decode xb_L_partsOf 30 = .ok (.invokevirtual 77, 3) := by decide +kernel
theorem xd_L_partsOf_33 : decode xb_L_partsOf 33 = .ok (.goto 9, 3) := by decide +kernel
theorem xd_L_partsOf_36 : decode xb_L_partsOf 36 = .ok (.getstatic 80, 3) := by decide +kernel
theorem xd_L_partsOf_39 : decode xb_L_partsOf 39 = .ok (.iload 4, 2) := by decide +kernel
theorem xd_L_partsOf_41 : decode xb_L_partsOf 41 = .ok (.iaload, 1) := by decide +kernel
theorem xd_L_partsOf_42 : decode xb_L_partsOf 42 = .ok (.ireturn, 1) := by decide +kernel
theorem xd_L_isRight_0 : decode xb_L_isRight 0 = .ok (.aload_n 1, 1) := by decide +kernel
theorem xd_L_isRight_1 : decode xb_L_isRight 1 = .ok (.getfield 57, 3) := by decide +kernel
theorem xd_L_isRight_4 : decode xb_L_isRight 4 = .ok (.iload 4, 2) := by decide +kernel
theorem xd_L_isRight_6 : decode xb_L_isRight 6 = .ok (.iaload, 1) := by decide +kernel
theorem xd_L_isRight_7 : decode xb_L_isRight 7 = .ok (.istore 5, 2) := by decide +kernel
theorem xd_L_isRight_9 : decode xb_L_isRight 9 = .ok (.aload_n 1, 1) := by decide +kernel
theorem xd_L_isRight_10 : decode xb_L_isRight 10 = .ok (.getfield 61, 3) := by decide +kernel
theorem xd_L_isRight_13 : decode xb_L_isRight 13 = .ok (.iload 4, 2) := by decide +kernel
theorem xd_L_isRight_15 : decode xb_L_isRight 15 = .ok (.iaload, 1) := by decide +kernel
theorem xd_L_isRight_16 : decode xb_L_isRight 16 = .ok (.istore 6, 2) := by decide +kernel
theorem xd_L_isRight_18 : decode xb_L_isRight 18 = .ok (.aload_n 1, 1) := by decide +kernel
theorem xd_L_isRight_19 : decode xb_L_isRight 19 = .ok (.getfield 64, 3) := by decide +kernel
theorem xd_L_isRight_22 : decode xb_L_isRight 22 = .ok (.iload 4, 2) := by decide +kernel
theorem xd_L_isRight_24 : decode xb_L_isRight 24 = .ok (.iaload, 1) := by decide +kernel
theorem xd_L_isRight_25 : decode xb_L_isRight 25 = .ok (.lookupswitch 139 #[(1, 43), (2, 64), (3, 112), (11, 119)], 43) := by decide +kernel
theorem xd_L_isRight_68 : decode xb_L_isRight 68 = .ok (.iload 5, 2) := by decide +kernel
theorem xd_L_isRight_70 : decode xb_L_isRight 70 = .ok (.ifCond .lt 17, 3) := by decide +kernel
theorem xd_L_isRight_73 : decode xb_L_isRight 73 = .ok (.iload 5, 2) := by decide +kernel
theorem xd_L_isRight_75 : decode xb_L_isRight 75 = .ok (.aload_n 1, 1) := by decide +kernel
theorem xd_L_isRight_76 : decode xb_L_isRight 76 = .ok (.iload_n 3, 1) := by decide +kernel
theorem xd_L_isRight_77 : decode xb_L_isRight 77 = .ok (.invokevirtual 67, 3) := by decide +kernel
theorem xd_L_isRight_80 : decode xb_L_isRight 80 = .ok (.if_icmp .ge 7, 3) := by decide +kernel
theorem xd_L_isRight_83 : decode xb_L_isRight 83 = .ok (.iconst 1, 1) := by decide +kernel
theorem xd_L_isRight_84 : decode xb_L_isRight 84 = .ok (.goto 4, 3) := by decide +kernel
theorem xd_L_isRight_87 : decode xb_L_isRight 87 = .ok (.iconst 0, 1) := by decide +kernel
theorem xd_L_isRight_88 : decode xb_L_isRight 88 = .ok (.ireturn, 1) := by decide +kernel
theorem xd_L_isRight_89 : decode xb_L_isRight 89 = .ok (.iload 5, 2) := by decide +kernel
theorem xd_L_isRight_91 : decode xb_L_isRight 91 = .ok (.iload_n 2, 1) := by decide +kernel
theorem xd_L_isRight_92 : decode xb_L_isRight 92 = .ok (.if_icmp .ne 12, 3) := by decide +kernel
theorem xd_L_isRight_95 : decode xb_L_isRight 95 = .ok (.aload_n 1, 1) := by decide +kernel
theorem xd_L_isRight_96 : decode xb_L_isRight 96 = .ok (.iload 6, 2) := by decide +kernel
theorem xd_L_isRight_98 : decode xb_L_isRight 98 = .ok (.invokevirtual 70, 3) := by decide +kernel
theorem xd_L_isRight_101 : decode xb_L_isRight 101 = .ok (.goto 35, 3) := by decide +kernel
theorem xd_L_isRight_104 : decode xb_L_isRight 104 = .ok (.aload_n 0, 1) := by decide +kernel
theorem xd_L_isRight_105 : decode xb_L_isRight 105 = .ok (.iload 5, 2) := by decide +kernel
theorem xd_L_isRight_107 : decode xb_L_isRight 107 = .ok (.invokevirtual 26, 3) := by decide +kernel
theorem xd_L_isRight_110 : decode xb_L_isRight 110 = .ok (.ifCond .eq 25, 3) := by decide +kernel
theorem xd_L_isRight_113 : decode xb_L_isRight 113 = .ok (.aload_n 0, 1) := by decide +kernel
theorem xd_L_isRight_114 : decode xb_L_isRight 114 = .ok (.getfield 11, 3) := by decide +kernel
theorem xd_L_isRight_117 : decode xb_L_isRight 117 = .ok (.iload 5, 2) := by decide +kernel
theorem xd_L_isRight_119 : decode xb_L_isRight 119 = .ok (.aaload, 1) := by decide +kernel
theorem xd_L_isRight_120 : decode xb_L_isRight 120 = .ok (.getfield 73, 3) := by decide +kernel
theorem xd_L_isRight_123 : decode xb_L_isRight 123 = .ok (.iload 6, 2) := by decide +kernel
theorem xd_L_isRight_125 : decode xb_L_isRight 125 = .ok (.invokevirtual 70, 3) := by decide +kernel
theorem xd_L_isRight_128 : decode xb_L_isRight 128 = .ok (.ifCond .eq 7, 3) := by decide +kernel
theorem xd_L_isRight_131 : decode xb_L_isRight 131 = .ok (.iconst 1, 1) := by decide +kernel
theorem xd_L_isRight_132 : decode xb_L_isRight 132 = .ok (.goto 4, 3) := by decide +kernel
theorem xd_L_isRight_135 : decode xb_L_isRight 135 = .ok (.iconst 0, 1) := by decide +kernel
theorem xd_L_isRight_136 : decode xb_L_isRight 136 = .ok (.ireturn, 1) := by decide +kernel
theorem xd_L_isRight_137 : decode xb_L_isRight 137 = .ok (.aload_n 1, 1) := by decide +kernel
theorem xd_L_isRight_138 : decode xb_L_isRight 138 = .ok (.iload 6, 2) := by decide +kernel
theorem xd_L_isRight_140 : decode xb_L_isRight 140 = .ok (.invokevirtual 70, 3) := by decide +kernel
theorem xd_L_isRight_143 : decode xb_L_isRight 143 = .ok (.ireturn, 1) := by decide +kernel
theorem xd_L_isRight_144 : decode xb_L_isRight 144 = .ok (.aload_n 0, 1) := by decide +kernel
theorem xd_L_isRight_145 : decode xb_L_isRight 145 = .ok (.aload_n 1, 1) := by decide +kernel
theorem xd_L_isRight_146 : decode xb_L_isRight 146 = .ok (.iload_n 2, 1) := by decide +kernel
theorem xd_L_isRight_147 : decode xb_L_isRight 147 = .ok (.iload 5, 2) := by decide +kernel
theorem xd_L_isRight_149 : decode xb_L_isRight 149 = .ok (.iload 6, 2) := by decide +kernel
theorem xd_L_isRight_151 : decode xb_L_isRight 151 = .ok (.invokevirtual 77, 3) := by decide +kernel
theorem xd_L_isRight_154 : decode xb_L_isRight 154 = .ok (.iconst (-1), 1) := by decide +kernel
theorem xd_L_isRight_155 : decode xb_L_isRight 155 = .ok (.if_icmp .eq 7, 3) := by decide +kernel
theorem xd_L_isRight_158 : decode xb_L_isRight 158 = .ok (.iconst 1, 1) := by decide +kernel
theorem xd_L_isRight_159 : decode xb_L_isRight 159 = .ok (.goto 4, 3) := by decide +kernel
theorem xd_L_isRight_162 : decode xb_L_isRight 162 = .ok (.iconst 0, 1) := by decide +kernel
theorem xd_L_isRight_163 : decode xb_L_isRight 163 = .ok (.ireturn, 1) := by decide +kernel
theorem xd_L_isRight_164 : decode xb_L_isRight 164 = .ok (.iconst 1, 1) := by decide +kernel
theorem xd_L_isRight_165 : decode xb_L_isRight 165 = .ok (.ireturn, 1) := by decide +kernel
theorem xd_L_isExpression_0 : decode xb_L_isExpression 0 = .ok (.iload 4, 2) := by decide +kernel
theorem xd_L_isExpression_2 : decode xb_L_isExpression 2 = .ok (.iconst 4, 1) := by decide +kernel
theorem xd_L_isExpression_3 : decode xb_L_isExpression 3 = .ok (.if_icmp .gt 15, 3) := by decide +kernel
theorem xd_L_isExpression_6 : decode xb_L_isExpression 6 = .ok (.aload_n 0, 1) := by decide +kernel
theorem xd_L_isExpression_7 : decode xb_L_isExpression 7 = .ok (.getfield 35, 3) := by decide +kernel
theorem xd_L_isExpression_10 : decode xb_L_isExpression 10 = .ok (.aload_n 1, 1) := by decide +kernel
theorem xd_L_isExpression_11 : decode xb_L_isExpression 11 = .ok (.iload_n 3, 1) := by decide +kernel
theorem xd_L_isExpression_12 : decode xb_L_isExpression 12 = .ok (.invokevirtual 42, 3) := by decide +kernel
theorem xd_L_isExpression_15 : decode xb_L_isExpression 15 = .ok (.if_icmp .lt 5, 3) := by decide +kernel
theorem xd_L_isExpression_18 : decode xb_L_isExpression 18 = .ok (.iconst 0, 1) := by decide +kernel
theorem xd_L_isExpression_19 : decode xb_L_isExpression 19 = .ok (.ireturn, 1) := by decide +kernel
theorem xd_L_isExpression_20 : decode xb_L_isExpression 20 = .ok (.aload_n 1, 1) := by decide +kernel
theorem xd_L_isExpression_21 : decode xb_L_isExpression 21 = .ok (.iload_n 3, 1) := by decide +kernel
theorem xd_L_isExpression_22 : decode xb_L_isExpression 22 = .ok (.aload_n 0, 1) := by decide +kernel
theorem xd_L_isExpression_23 : decode xb_L_isExpression 23 = .ok (.getfield 35, 3) := by decide +kernel
theorem xd_L_isExpression_26 : decode xb_L_isExpression 26 = .ok (.invokevirtual 46, 3) := by decide +kernel
theorem xd_L_isExpression_29 : decode xb_L_isExpression 29 = .ok (.istore 5, 2) := by decide +kernel
theorem xd_L_isExpression_31 : decode xb_L_isExpression 31 = .ok (.aload_n 0, 1) := by decide +kernel
theorem xd_L_isExpression_32 : decode xb_L_isExpression 32 = .ok (.aload_n 1, 1) := by decide +kernel
theorem xd_L_isExpression_33 : decode xb_L_isExpression 33 = .ok (.iload_n 2, 1) := by decide +kernel
theorem xd_L_isExpression_34 : decode xb_L_isExpression 34 = .ok (.iload_n 3, 1) := by decide +kernel
theorem xd_L_isExpression_35 : decode xb_L_isExpression 35 = .ok (.iload 5, 2) := by decide +kernel
theorem xd_L_isExpression_37 : decode xb_L_isExpression 37 = .ok (.invokevirtual 50, 3) := by decide +kernel
theorem xd_L_isExpression_40 : decode xb_L_isExpression 40 = .ok (.ifCond .ne 5, 3) := by decide +kernel
theorem xd_L_isExpression_43 : decode xb_L_isExpression 43 = .ok (.iconst 0, 1) := by decide +kernel
theorem xd_L_isExpression_44 : decode xb_L_isExpression 44 = .ok (.ireturn, 1) := by decide +kernel
theorem xd_L_isExpression_45 : decode xb_L_isExpression 45 = .ok (.aload_n 0, 1) := by decide +kernel
theorem xd_L_isExpression_46 : decode xb_L_isExpression 46 = .ok (.aload_n 1, 1) := by decide +kernel
theorem xd_L_isExpression_47 : decode xb_L_isExpression 47 = .ok (.iload_n 2, 1) := by decide +kernel
theorem xd_L_isExpression_48 : decode xb_L_isExpression 48 = .ok (.iload 5, 2) := by decide +kernel
theorem xd_L_isExpression_50 : decode xb_L_isExpression 50 = .ok (.invokevirtual 53, 3) := by decide +kernel
theorem xd_L_isExpression_53 : decode xb_L_isExpression 53 = .ok (.istore 6, 2) := by decide +kernel
theorem xd_L_isExpression_55 : decode xb_L_isExpression 55 = .ok (.aload_n 0, 1) := by decide +kernel
theorem xd_L_isExpression_56 : decode xb_L_isExpression 56 = .ok (.dup, 1) := by decide +kernel
theorem xd_L_isExpression_57 : decode xb_L_isExpression 57 = .ok (.getfield 35, 3) := by decide +kernel
theorem xd_L_isExpression_60 : decode xb_L_isExpression 60 = .ok (.iconst 1, 1) := by decide +kernel
theorem xd_L_isExpression_61 : decode xb_L_isExpression 61 = .ok (.iadd, 1) := by decide +kernel
theorem xd_L_isExpression_62 : decode xb_L_isExpression 62 = .ok (.putfield 35, 3) := by decide +kernel
theorem xd_L_isExpression_65 : decode xb_L_isExpression 65 = .ok (.iconst 0, 1) := by decide +kernel
theorem xd_L_isExpression_66 : decode xb_L_isExpression 66 = .ok (.istore 7, 2) := by decide +kernel
theorem xd_L_isExpression_68 : decode xb_L_isExpression 68 = .ok (.iload 7, 2) := by decide +kernel
theorem xd_L_isExpression_70 : decode xb_L_isExpression 70 = .ok (.iload 6, 2) := by decide +kernel
theorem xd_L_isExpression_72 : decode xb_L_isExpression 72 = .ok (.if_icmp .ge 25, 3) := by decide +kernel
theorem xd_L_isExpression_75 : decode xb_L_isExpression 75 = .ok (.aload_n 0, 1) := by decide +kernel
theorem xd_L_isExpression_76 : decode xb_L_isExpression 76 = .ok (.aload_n 1, 1) := by decide +kernel
theorem xd_L_isExpression_77 : decode xb_L_isExpression 77 = .ok (.iload_n 2, 1) := by decide +kernel
theorem xd_L_isExpression_78 : decode xb_L_isExpression 78 = .ok (.iload_n 3, 1) := by decide +kernel
theorem xd_L_isExpression_79 : decode xb_L_isExpression 79 = .ok (.iload 4, 2) := by decide +kernel
theorem xd_L_isExpression_81 : decode xb_L_isExpression 81 = .ok (.iconst 1, 1) := by decide +kernel
theorem xd_L_isExpression_82 : decode xb_L_isExpression 82 = .ok (.iadd, 1) := by decide +kernel
theorem xd_L_isExpression_83 : decode xb_L_isExpression 83 = .ok (.invokevirtual 38, 3) := by decide +kernel
theorem xd_L_isExpression_86 : decode xb_L_isExpression 86 = .ok (.ifCond .ne 5, 3) := by decide +kernel
theorem xd_L_isExpression_89 : decode xb_L_isExpression 89 = .ok (.iconst 0, 1) := by decide +kernel
theorem xd_L_isExpression_90 : decode xb_L_isExpression 90 = .ok (.ireturn, 1) := by decide +kernel
theorem xd_L_isExpression_91 : decode xb_L_isExpression 91 = .ok (.iinc 7 1, 3) := by decide +kernel
theorem xd_L_isExpression_94 : decode xb_L_isExpression 94 = .ok (.goto (-26), 3) := by decide +kernel
theorem xd_L_isExpression_97 : decode xb_L_isExpression 97 = .ok (.iconst 1, 1) := by decide +kernel
theorem xd_L_isExpression_98 : decode xb_L_isExpression 98 = .ok (.ireturn, 1) := by decide +kernel
theorem xd_L_firstWrong_0 : decode xb_L_firstWrong 0 = .ok (.iconst 0, 1) := by decide +kernel
theorem xd_L_firstWrong_1 : decode xb_L_firstWrong 1 = .ok (.istore_n 3, 1) := by decide +kernel
theorem xd_L_firstWrong_2 : decode xb_L_firstWrong 2 = .ok (.iload_n 3, 1) := by decide +kernel
theorem xd_L_firstWrong_3 : decode xb_L_firstWrong 3 = .ok (.aload_n 1, 1) := by decide +kernel
theorem xd_L_firstWrong_4 : decode xb_L_firstWrong 4 = .ok (.getfield 29, 3) := by decide +kernel
theorem xd_L_firstWrong_7 : decode xb_L_firstWrong 7 = .ok (.if_icmp .ge 47, 3) := by decide +kernel
theorem xd_L_firstWrong_10 : decode xb_L_firstWrong 10 = .ok (.aload_n 0, 1) := by decide +kernel
theorem xd_L_firstWrong_11 : decode xb_L_firstWrong 11 = .ok (.iconst 0, 1) := by decide +kernel
theorem xd_L_firstWrong_12 : decode xb_L_firstWrong 12 = .ok (.putfield 35, 3) := by decide +kernel
theorem xd_L_firstWrong_15 : decode xb_L_firstWrong 15 = .ok (.aload_n 0, 1) := by decide +kernel
theorem xd_L_firstWrong_16 : decode xb_L_firstWrong 16 = .ok (.aload_n 1, 1) := by decide +kernel
theorem xd_L_firstWrong_17 : decode xb_L_firstWrong 17 = .ok (.iload_n 2, 1) := by decide +kernel
theorem xd_L_firstWrong_18 : decode xb_L_firstWrong 18 = .ok (.iload_n 3, 1) := by decide +kernel
theorem xd_L_firstWrong_19 : decode xb_L_firstWrong 19 = .ok (.iconst 0, 1) := by decide +kernel
theorem xd_L_firstWrong_20 : decode xb_L_firstWrong 20 = .ok (.invokevirtual 38, 3) := by decide +kernel
theorem xd_L_firstWrong_23 : decode xb_L_firstWrong 23 = .ok (.ifCond .eq 15, 3) := by decide +kernel
theorem xd_L_firstWrong_26 : decode xb_L_firstWrong 26 = .ok (.aload_n 0, 1) := by decide +kernel
theorem xd_L_firstWrong_27 : decode xb_L_firstWrong 27 = .ok (.getfield 35, 3) := by decide +kernel
theorem xd_L_firstWrong_30 : decode xb_L_firstWrong 30 = .ok (.aload_n 1, 1) := by decide +kernel
theorem xd_L_firstWrong_31 : decode xb_L_firstWrong 31 = .ok (.iload_n 3, 1) := by decide +kernel
theorem xd_L_firstWrong_32 : decode xb_L_firstWrong 32 = .ok (.invokevirtual 42, 3) := by decide +kernel
theorem xd_L_firstWrong_35 : decode xb_L_firstWrong 35 = .ok (.if_icmp .ge 13, 3) := by decide +kernel
theorem xd_L_firstWrong_38 : decode xb_L_firstWrong 38 = .ok (.bipush 16, 2) := by decide +kernel
theorem xd_L_firstWrong_40 : decode xb_L_firstWrong 40 = .ok (.iload_n 3, 1) := by decide +kernel
theorem xd_L_firstWrong_41 : decode xb_L_firstWrong 41 = .ok (.imul, 1) := by decide +kernel
theorem xd_L_firstWrong_42 : decode xb_L_firstWrong 42 = .ok (.aload_n 0, 1) := by decide +kernel
theorem xd_L_firstWrong_43 : decode xb_L_firstWrong 43 = .ok (.getfield 35, 3) := by decide +kernel
theorem xd_L_firstWrong_46 : decode xb_L_firstWrong 46 = .ok (.iadd, 1) := by decide +kernel
theorem xd_L_firstWrong_47 : decode xb_L_firstWrong 47 = .ok (.ireturn, 1) := by decide +kernel
theorem xd_L_firstWrong_48 : decode xb_L_firstWrong 48 = .ok (.iinc 3 1, 3) := by decide +kernel
theorem xd_L_firstWrong_51 : decode xb_L_firstWrong 51 = .ok (.goto (-49), 3) := by decide +kernel
theorem xd_L_firstWrong_54 : decode xb_L_firstWrong 54 = .ok (.iconst (-1), 1) := by decide +kernel
theorem xd_L_firstWrong_55 : decode xb_L_firstWrong 55 = .ok (.ireturn, 1) := by decide +kernel
theorem xd_L_gatherImports_0 : decode xb_L_gatherImports 0 = .ok (.aload_n 1, 1) := by decide +kernel
theorem xd_L_gatherImports_1 : decode xb_L_gatherImports 1 = .ok (.getfield 73, 3) := by decide +kernel
theorem xd_L_gatherImports_4 : decode xb_L_gatherImports 4 = .ok (.astore_n 3, 1) := by decide +kernel
theorem xd_L_gatherImports_5 : decode xb_L_gatherImports 5 = .ok (.aload_n 1, 1) := by decide +kernel
theorem xd_L_gatherImports_6 : decode xb_L_gatherImports 6 = .ok (.iconst 0, 1) := by decide +kernel
theorem xd_L_gatherImports_7 : decode xb_L_gatherImports 7 = .ok (.putfield 101, 3) := by decide +kernel
theorem xd_L_gatherImports_10 : decode xb_L_gatherImports 10 = .ok (.iconst 0, 1) := by decide +kernel
theorem xd_L_gatherImports_11 : decode xb_L_gatherImports 11 = .ok (.istore 4, 2) := by decide +kernel
theorem xd_L_gatherImports_13 : decode xb_L_gatherImports 13 = .ok (.iload 4, 2) := by decide +kernel
theorem xd_L_gatherImports_15 : decode xb_L_gatherImports 15 = .ok (.aload_n 3, 1) := by decide +kernel
theorem xd_L_gatherImports_16 : decode xb_L_gatherImports 16 = .ok (.getfield 29, 3) := by decide +kernel
theorem xd_L_gatherImports_19 : decode xb_L_gatherImports 19 = .ok (.if_icmp .ge 114, 3) := by decide +kernel
theorem xd_L_gatherImports_22 : decode xb_L_gatherImports 22 = .ok (.iconst 0, 1) := by decide +kernel
theorem xd_L_gatherImports_23 : decode xb_L_gatherImports 23 = .ok (.istore 5, 2) := by decide +kernel
theorem xd_L_gatherImports_25 : decode xb_L_gatherImports 25 = .ok (.iload 5, 2) := by decide +kernel
theorem xd_L_gatherImports_27 : decode xb_L_gatherImports 27 = .ok (.aload_n 3, 1) := by decide +kernel
theorem xd_L_gatherImports_28 : decode xb_L_gatherImports 28 = .ok (.iload 4, 2) := by decide +kernel
theorem xd_L_gatherImports_30 : decode xb_L_gatherImports 30 = .ok (.invokevirtual 42, 3) := by decide +kernel
theorem xd_L_gatherImports_33 : decode xb_L_gatherImports 33 = .ok (.if_icmp .ge 94, 3) := by decide +kernel
theorem xd_L_gatherImports_36 : decode xb_L_gatherImports 36 = .ok (.aload_n 3, 1) := by decide +kernel
theorem xd_L_gatherImports_37 : decode xb_L_gatherImports 37 = .ok (.iload 4, 2) := by decide +kernel
theorem xd_L_gatherImports_39 : decode xb_L_gatherImports 39 = .ok (.iload 5, 2) := by decide +kernel
theorem xd_L_gatherImports_41 : decode xb_L_gatherImports 41 = .ok (.invokevirtual 46, 3) := by decide +kernel
theorem xd_L_gatherImports_44 : decode xb_L_gatherImports 44 = .ok (.istore 6, 2) := by decide +kernel
theorem xd_L_gatherImports_46 : decode xb_L_gatherImports 46 = .ok (.aload_n 3, 1) := by decide +kernel
theorem xd_L_gatherImports_47 : decode xb_L_gatherImports 47 = .ok (.getfield 57, 3) := by decide +kernel
theorem xd_L_gatherImports_50 : decode xb_L_gatherImports 50 = .ok (.iload 6, 2) := by decide +kernel
theorem xd_L_gatherImports_52 : decode xb_L_gatherImports 52 = .ok (.iaload, 1) := by decide +kernel
theorem xd_L_gatherImports_53 : decode xb_L_gatherImports 53 = .ok (.istore 7, 2) := by decide +kernel
theorem xd_L_gatherImports_55 : decode xb_L_gatherImports 55 = .ok (.aload_n 3, 1) := by decide +kernel
theorem xd_L_gatherImports_56 : decode xb_L_gatherImports 56 = .ok (.getfield 64, 3) := by decide +kernel
theorem xd_L_gatherImports_59 : decode xb_L_gatherImports 59 = .ok (.iload 6, 2) := by decide +kernel
theorem xd_L_gatherImports_61 : decode xb_L_gatherImports 61 = .ok (.iaload, 1) := by decide +kernel
theorem xd_L_gatherImports_62 : decode xb_L_gatherImports 62 = .ok (.iconst 2, 1) := by decide +kernel
theorem xd_L_gatherImports_63 : decode xb_L_gatherImports 63 = .ok (.if_icmp .eq 15, 3) := by decide +kernel
theorem xd_L_gatherImports_66 : decode xb_L_gatherImports 66 = .ok (.aload_n 3, 1) := by decide +kernel
theorem xd_L_gatherImports_67 : decode xb_L_gatherImports 67 = .ok (.getfield 64, 3) := by decide +kernel
theorem xd_L_gatherImports_70 : decode xb_L_gatherImports 70 = .ok (.iload 6, 2) := by decide +kernel
theorem xd_L_gatherImports_72 : decode xb_L_gatherImports 72 = .ok (.iaload, 1) := by decide +kernel
theorem xd_L_gatherImports_73 : decode xb_L_gatherImports 73 = .ok (.bipush 11, 2) := by decide +kernel
theorem xd_L_gatherImports_75 : decode xb_L_gatherImports 75 = .ok (.if_icmp .ne 7, 3) := by decide +kernel
theorem xd_L_gatherImports_78 : decode xb_L_gatherImports 78 = .ok (.iconst 1, 1) := by decide +kernel
theorem xd_L_gatherImports_79 : decode xb_L_gatherImports 79 = .ok (.goto 4, 3) := by decide +kernel
theorem xd_L_gatherImports_82 : decode xb_L_gatherImports 82 = .ok (.iconst 0, 1) := by decide +kernel
theorem xd_L_gatherImports_83 : decode xb_L_gatherImports 83 = .ok (.istore 8, 2) := by decide +kernel
theorem xd_L_gatherImports_85 : decode xb_L_gatherImports 85 = .ok (.iload 8, 2) := by decide +kernel
theorem xd_L_gatherImports_87 : decode xb_L_gatherImports 87 = .ok (.ifCond .eq 34, 3) := by decide +kernel
theorem xd_L_gatherImports_90 : decode xb_L_gatherImports 90 = .ok (.iload 7, 2) := by decide +kernel
theorem xd_L_gatherImports_92 : decode xb_L_gatherImports 92 = .ok (.iload_n 2, 1) := by decide +kernel
theorem xd_L_gatherImports_93 : decode xb_L_gatherImports 93 = .ok (.if_icmp .eq 28, 3) := by decide +kernel
theorem xd_L_gatherImports_96 : decode xb_L_gatherImports 96 = .ok (.aload_n 0, 1) := by decide +kernel
theorem xd_L_gatherImports_97 : decode xb_L_gatherImports 97 = .ok (.iload 7, 2) := by decide +kernel
theorem xd_L_gatherImports_99 : decode xb_L_gatherImports 99 = .ok (.invokevirtual 26, 3) := by decide +kernel
theorem xd_L_gatherImports_102 : decode xb_L_gatherImports 102 = .ok (.ifCond .eq 19, 3) := by decide +kernel
theorem xd_L_gatherImports_105 : decode xb_L_gatherImports 105 = .ok (.aload_n 1, 1) := by decide +kernel
theorem xd_L_gatherImports_106 : decode xb_L_gatherImports 106 = .ok (.iload 7, 2) := by decide +kernel
theorem xd_L_gatherImports_108 : decode xb_L_gatherImports 108 = .ok (.aload_n 0, 1) := by decide +kernel
theorem xd_L_gatherImports_109 : decode xb_L_gatherImports 109 = .ok (.getfield 11, 3) := by decide +kernel
theorem xd_L_gatherImports_112 : decode xb_L_gatherImports 112 = .ok (.iload 7, 2) := by decide +kernel
theorem xd_L_gatherImports_114 : decode xb_L_gatherImports 114 = .ok (.aaload, 1) := by decide +kernel
theorem xd_L_gatherImports_115 : decode xb_L_gatherImports 115 = .ok (.getfield 90, 3) := by decide +kernel
theorem xd_L_gatherImports_118 : decode xb_L_gatherImports 118 = .ok (.invokevirtual 104, 3) := by decide +kernel
theorem xd_L_gatherImports_121 : decode xb_L_gatherImports 121 = .ok (.iinc 5 1, 3) := by decide +kernel
theorem xd_L_gatherImports_124 : decode xb_L_gatherImports 124 = .ok (.goto (-99), 3) := by decide +kernel
theorem xd_L_gatherImports_127 : decode xb_L_gatherImports 127 = .ok (.iinc 4 1, 3) := by decide +kernel
theorem xd_L_gatherImports_130 : decode xb_L_gatherImports 130 = .ok (.goto (-117), 3) := by decide +kernel
theorem xd_L_gatherImports_133 : decode xb_L_gatherImports 133 = .ok (.return_, 1) := by decide +kernel
theorem xd_L_keep_0 : decode xb_L_keep 0 = .ok (.aload_n 0, 1) := by decide +kernel
theorem xd_L_keep_1 : decode xb_L_keep 1 = .ok (.getfield 11, 3) := by decide +kernel
theorem xd_L_keep_4 : decode xb_L_keep 4 = .ok (.iload_n 2, 1) := by decide +kernel
theorem xd_L_keep_5 : decode xb_L_keep 5 = .ok (.aaload, 1) := by decide +kernel
theorem xd_L_keep_6 : decode xb_L_keep 6 = .ok (.astore_n 3, 1) := by decide +kernel
theorem xd_L_keep_7 : decode xb_L_keep 7 = .ok (.aload_n 3, 1) := by decide +kernel
theorem xd_L_keep_8 : decode xb_L_keep 8 = .ok (.getfield 22, 3) := by decide +kernel
theorem xd_L_keep_11 : decode xb_L_keep 11 = .ok (.ifCond .eq 14, 3) := by decide +kernel
theorem xd_L_keep_14 : decode xb_L_keep 14 = .ok (.aload_n 3, 1) := by decide +kernel
theorem xd_L_keep_15 : decode xb_L_keep 15 = .ok (.getfield 73, 3) := by decide +kernel
theorem xd_L_keep_18 : decode xb_L_keep 18 = .ok (.aload_n 1, 1) := by decide +kernel
theorem xd_L_keep_19 : decode xb_L_keep 19 = .ok (.invokevirtual 83, 3) := by decide +kernel
theorem xd_L_keep_22 : decode xb_L_keep 22 = .ok (.ifCond .ne 21, 3) := by decide +kernel
theorem xd_L_keep_25 : decode xb_L_keep 25 = .ok (.aload_n 0, 1) := by decide +kernel
theorem xd_L_keep_26 : decode xb_L_keep 26 = .ok (.dup, 1) := by decide +kernel
theorem xd_L_keep_27 : decode xb_L_keep 27 = .ok (.getfield 87, 3) := by decide +kernel
theorem xd_L_keep_30 : decode xb_L_keep 30 = .ok (.iconst 1, 1) := by decide +kernel
theorem xd_L_keep_31 : decode xb_L_keep 31 = .ok (.iadd, 1) := by decide +kernel
theorem xd_L_keep_32 : decode xb_L_keep 32 = .ok (.putfield 87, 3) := by decide +kernel
theorem xd_L_keep_35 : decode xb_L_keep 35 = .ok (.aload_n 3, 1) := by decide +kernel
theorem xd_L_keep_36 : decode xb_L_keep 36 = .ok (.aload_n 0, 1) := by decide +kernel
theorem xd_L_keep_37 : decode xb_L_keep 37 = .ok (.getfield 87, 3) := by decide +kernel
theorem xd_L_keep_40 : decode xb_L_keep 40 = .ok (.putfield 90, 3) := by decide +kernel
theorem xd_L_keep_43 : decode xb_L_keep 43 = .ok (.aload_n 3, 1) := by decide +kernel
theorem xd_L_keep_44 : decode xb_L_keep 44 = .ok (.iconst 1, 1) := by decide +kernel
theorem xd_L_keep_45 : decode xb_L_keep 45 = .ok (.putfield 22, 3) := by decide +kernel
theorem xd_L_keep_48 : decode xb_L_keep 48 = .ok (.aload_n 3, 1) := by decide +kernel
theorem xd_L_keep_49 : decode xb_L_keep 49 = .ok (.getfield 73, 3) := by decide +kernel
theorem xd_L_keep_52 : decode xb_L_keep 52 = .ok (.aload_n 1, 1) := by decide +kernel
theorem xd_L_keep_53 : decode xb_L_keep 53 = .ok (.invokevirtual 93, 3) := by decide +kernel
theorem xd_L_keep_56 : decode xb_L_keep 56 = .ok (.aload_n 0, 1) := by decide +kernel
theorem xd_L_keep_57 : decode xb_L_keep 57 = .ok (.aload_n 3, 1) := by decide +kernel
theorem xd_L_keep_58 : decode xb_L_keep 58 = .ok (.iload_n 2, 1) := by decide +kernel
theorem xd_L_keep_59 : decode xb_L_keep 59 = .ok (.invokevirtual 97, 3) := by decide +kernel
theorem xd_L_keep_62 : decode xb_L_keep 62 = .ok (.aload_n 3, 1) := by decide +kernel
theorem xd_L_keep_63 : decode xb_L_keep 63 = .ok (.getfield 90, 3) := by decide +kernel
theorem xd_L_keep_66 : decode xb_L_keep 66 = .ok (.ireturn, 1) := by decide +kernel
section
variable {l : Launch} {D : va_G} {ad : Nat → Nat} {ids : Nat → ClassId} {ps : Nat}
def xm_L_has (σ : aw_m) (k0 : Nat) (a1 : Int32) : Option Int32 := (xm_S_isModule σ a1).bind fun q_1 => (if q_1 = 0 then some (0 : Int32) else if aw_in a1 6 = true then (if σ (k0 + 1 + 1 + 9 * (Int32.toNatClampNeg a1)) 0 = 0 then some (0 : Int32) else some (1 : Int32)) else none)
set_option maxHeartbeats 4000000 in
set_option maxRecDepth 100000 in
theorem xc_L_has (σ : aw_m) (k0 : Nat) (a1 : Int32) (q : Int32) (hk0 : kd_k k0 = 4) (hm : xm_L_has σ k0 a1 = some q) : aw_M l D (ty_z ids) (zs_T ps) xy_L_has (xw_L_has :: gw_l) (rm_D (1)) [.ref (ad k0), .int a1] (cw_w ad ids σ) (some (.int q)) (cw_w ad ids σ) := by
  refine aw_intro (cc := xb_L_has) (n := 2) (ret := (some .boolean)) "ModuleShelf$Library" rfl (by decide) rfl (Nat.le_of_ble_eq_true rfl) ?_
  intro κ C
  unfold xm_L_has at hm
  refine aw_iload_n C 1 xd_L_has_0 rfl rfl ?_
  obtain ⟨q_1, e_1, hm⟩ := aw_bnd hm
  refine aw_callSNi (As := [.int a1]) (rest := []) C (xc_S_isModule σ a1 _  e_1) rfl (gw_sub (gw_C xg_S_isModule)) (List.mem_of_getElem? (i := 3) rfl) (List.mem_cons_of_mem _ wi_S) (List.mem_cons_of_mem _ st_S_isModule) na_S_isModule (rm_lt (by decide) (by decide)) ⟨Nat.zero_le _, Nat.zero_le _⟩ rfl (Nat.le_of_ble_eq_true rfl) xd_L_has_1 ?_
  refine aw_if_eq (tgt := 23) C xd_L_has_4 (by decide) (fun c_4 => ?_) (fun c_4 => ?_)
  · rw [if_pos c_4] at hm
    refine aw_iconst (v := (0 : Int32)) C xd_L_has_23 (by decide) ?_
    cases hm
    exact aw_zret C (by decide) xd_L_has_24
  · rw [if_neg c_4] at hm
    refine aw_aload_n C 0 xd_L_has_7 rfl rfl ?_
    refine aw_get C k0 (kd_lt hk0) (ly_L hk0) rfl (fun w h => List.mem_cons_of_mem _ (xi_L w h)) 0 (by decide) rfl (List.mem_cons_of_mem _ fl_L_11) xd_L_has_8 ?_
    refine aw_iload_n C 1 xd_L_has_11 rfl rfl ?_
    obtain ⟨g_12, hm⟩ := aw_grd hm
    refine aw_aald C (k0 + 1) (kd_lt (kf_L_units hk0)) 2 (ly_U6 (kf_L_units hk0)) rfl (aw_in_ok g_12) (if_pos (aw_in_lt g_12)) xd_L_has_12 ?_
    refine aw_get C (k0 + 1 + 1 + 9 * (Int32.toNatClampNeg a1)) (kd_lt (ka_U6 (kf_L_units hk0) (aw_in_lt g_12))) (ly_U (ka_U6 (kf_L_units hk0) (aw_in_lt g_12))) rfl (fun w h => List.mem_cons_of_mem _ (xi_U w h)) 0 (by decide) rfl (List.mem_cons_of_mem _ fl_L_22) xd_L_has_13 ?_
    refine aw_if_eq (tgt := 23) C xd_L_has_16 (by decide) (fun c_16 => ?_) (fun c_16 => ?_)
    · rw [if_pos c_16] at hm
      refine aw_iconst (v := (0 : Int32)) C xd_L_has_23 (by decide) ?_
      cases hm
      exact aw_zret C (by decide) xd_L_has_24
    · rw [if_neg c_16] at hm
      refine aw_iconst (v := (1 : Int32)) C xd_L_has_19 (by decide) ?_
      refine aw_goto (tgt := 24) C xd_L_has_20 (by decide) ?_
      cases hm
      exact aw_zret C (by decide) xd_L_has_24
def xq_L_held_4 (σ : aw_m)  : Nat → Nat → Int32 → Int32 → Option Int32
  | 0, _, _, _ => none
  | n + 1, j0, v1, v2 => (if (6 : Int32) ≤ v2 then some v1 else (xm_L_has σ j0 v2).bind fun q_13 => (if q_13 = 0 then xq_L_held_4 σ n j0 (v1 + (0 : Int32)) (v2 + (1 : Int32)) else xq_L_held_4 σ n j0 (v1 + (1 : Int32)) (v2 + (1 : Int32))))
def xm_L_held (σ : aw_m) (k0 : Nat) : Option Int32 := xq_L_held_4 σ 64 k0 (0 : Int32) (0 : Int32)
set_option maxHeartbeats 4000000 in
set_option maxRecDepth 100000 in
theorem xl_L_held_4 (σ : aw_m)  {κ : aw_K} (q : Int32) (C : aw_X l D (ty_z ids) (zs_T ps) (rm_D (2)) xb_L_held 3 "ModuleShelf$Library" (xw_L_held :: gw_l) (some .int) (some (.int q)) (cw_w ad ids σ) κ) : ∀ (n : Nat) (j0 : Nat) (v1 : Int32) (v2 : Int32) (hj0 : kd_k j0 = 4), xq_L_held_4 σ n j0 v1 v2 = some q → aw_J κ 0 0 (cw_w ad ids σ) [(0, .ref (ad j0)), (1, .int v1), (2, .int v2)] 4 [] := by
  intro n
  induction n with
  | zero => intro j0 v1 v2 hj0 hm; cases hm
  | succ n ih =>
    intro j0 v1 v2 hj0 hm
    rw [xq_L_held_4] at hm
    refine aw_iload_n C 2 xd_L_held_4 rfl rfl ?_
    refine aw_bipush (v := (6 : Int32)) C xd_L_held_5 (by decide) ?_
    refine aw_icmp_ge (tgt := 32) C xd_L_held_7 (by decide) (fun c_7 => ?_) (fun c_7 => ?_)
    · rw [if_pos c_7] at hm
      refine aw_iload_n C 1 xd_L_held_32 rfl rfl ?_
      cases hm
      exact aw_iret C xd_L_held_33
    · rw [if_neg c_7] at hm
      refine aw_iload_n C 1 xd_L_held_10 rfl rfl ?_
      refine aw_aload_n C 0 xd_L_held_11 rfl rfl ?_
      refine aw_iload_n C 2 xd_L_held_12 rfl rfl ?_
      obtain ⟨q_13, e_13, hm⟩ := aw_bnd hm
      refine aw_callVi (As := [.int v2]) (rest := [.int v1]) (b := ad j0) C (xc_L_has σ j0 v2 _ hj0 e_13) rfl (gw_sub (gw_V xg_L_has ml_L_26 im_L_has se_L_has wi_L)) na_L_has (rm_lt (by decide) (by decide)) ⟨Nat.zero_le _, Nat.zero_le _⟩ j0 (at_L hj0) rfl rfl (Nat.le_of_ble_eq_true rfl) xd_L_held_13 ?_
      refine aw_if_eq (tgt := 23) C xd_L_held_16 (by decide) (fun c_16 => ?_) (fun c_16 => ?_)
      · rw [if_pos c_16] at hm
        refine aw_iconst (v := (0 : Int32)) C xd_L_held_23 (by decide) ?_
        refine aw_iadd C xd_L_held_24 ?_
        refine aw_istore_n (L' := [(1, .int (v1 + (0 : Int32))), (0, .ref (ad j0)), (2, .int v2)]) C xd_L_held_25 rfl (by decide) rfl ?_
        refine aw_iinc (j := 2) (v := v2 + (1 : Int32)) (L' := [(2, .int (v2 + (1 : Int32))), (1, .int (v1 + (0 : Int32))), (0, .ref (ad j0))]) C xd_L_held_26 rfl rfl (by decide) rfl ?_
        refine aw_goto (tgt := 4) C xd_L_held_29 (by decide) ?_
        refine aw_loc (L' := [(0, .ref (ad j0)), (1, .int (v1 + (0 : Int32))), (2, .int (v2 + (1 : Int32)))]) C [2, 1, 0] rfl ?_
        exact ih j0 (v1 + (0 : Int32)) (v2 + (1 : Int32)) hj0 hm
      · rw [if_neg c_16] at hm
        refine aw_iconst (v := (1 : Int32)) C xd_L_held_19 (by decide) ?_
        refine aw_goto (tgt := 24) C xd_L_held_20 (by decide) ?_
        refine aw_iadd C xd_L_held_24 ?_
        refine aw_istore_n (L' := [(1, .int (v1 + (1 : Int32))), (0, .ref (ad j0)), (2, .int v2)]) C xd_L_held_25 rfl (by decide) rfl ?_
        refine aw_iinc (j := 2) (v := v2 + (1 : Int32)) (L' := [(2, .int (v2 + (1 : Int32))), (1, .int (v1 + (1 : Int32))), (0, .ref (ad j0))]) C xd_L_held_26 rfl rfl (by decide) rfl ?_
        refine aw_goto (tgt := 4) C xd_L_held_29 (by decide) ?_
        refine aw_loc (L' := [(0, .ref (ad j0)), (1, .int (v1 + (1 : Int32))), (2, .int (v2 + (1 : Int32)))]) C [2, 1, 0] rfl ?_
        exact ih j0 (v1 + (1 : Int32)) (v2 + (1 : Int32)) hj0 hm
set_option maxHeartbeats 4000000 in
set_option maxRecDepth 100000 in
theorem xc_L_held (σ : aw_m) (k0 : Nat) (q : Int32) (hk0 : kd_k k0 = 4) (hm : xm_L_held σ k0 = some q) : aw_M l D (ty_z ids) (zs_T ps) xy_L_held (xw_L_held :: gw_l) (rm_D (2)) [.ref (ad k0)] (cw_w ad ids σ) (some (.int q)) (cw_w ad ids σ) := by
  refine aw_intro (cc := xb_L_held) (n := 3) (ret := (some .int)) "ModuleShelf$Library" rfl (by decide) rfl (Nat.le_of_ble_eq_true rfl) ?_
  intro κ C
  unfold xm_L_held at hm
  refine aw_iconst (v := (0 : Int32)) C xd_L_held_0 (by decide) ?_
  refine aw_istore_n (L' := [(1, .int (0 : Int32)), (0, .ref (ad k0))]) C xd_L_held_1 rfl (by decide) rfl ?_
  refine aw_iconst (v := (0 : Int32)) C xd_L_held_2 (by decide) ?_
  refine aw_istore_n (L' := [(2, .int (0 : Int32)), (1, .int (0 : Int32)), (0, .ref (ad k0))]) C xd_L_held_3 rfl (by decide) rfl ?_
  refine aw_loc (L' := [(0, .ref (ad k0)), (1, .int (0 : Int32)), (2, .int (0 : Int32))]) C [2, 1, 0] rfl ?_
  exact xl_L_held_4 σ _ C 64 k0 (0 : Int32) (0 : Int32) hk0 hm
def xm_L_argumentsOf (σ : aw_m) (k0 : Nat) (k1 : Nat) (a2 : Int32) (a3 : Int32) (a4 : Int32) : Option Int32 := (if a3 = a2 then (xm_C_argumentsOf σ k1 a4).bind fun q_8 => some q_8 else (xm_L_has σ k0 a3).bind fun q_14 => (if q_14 = 0 then some (-1 : Int32) else if aw_in a3 6 = true then (xm_C_argumentsOf σ ((k0 + 1 + 1 + 9 * (Int32.toNatClampNeg a3)) + 3) a4).bind fun q_31 => some q_31 else none))
set_option maxHeartbeats 4000000 in
set_option maxRecDepth 100000 in
theorem xc_L_argumentsOf (σ : aw_m) (k0 : Nat) (k1 : Nat) (a2 : Int32) (a3 : Int32) (a4 : Int32) (q : Int32) (hk0 : kd_k k0 = 4) (hk1 : kd_k k1 = 1) (hm : xm_L_argumentsOf σ k0 k1 a2 a3 a4 = some q) : aw_M l D (ty_z ids) (zs_T ps) xy_L_argumentsOf (xw_L_argumentsOf :: gw_l) (rm_D (2)) [.ref (ad k0), .ref (ad k1), .int a2, .int a3, .int a4] (cw_w ad ids σ) (some (.int q)) (cw_w ad ids σ) := by
  refine aw_intro (cc := xb_L_argumentsOf) (n := 5) (ret := (some .int)) "ModuleShelf$Library" rfl (by decide) rfl (Nat.le_of_ble_eq_true rfl) ?_
  intro κ C
  unfold xm_L_argumentsOf at hm
  refine aw_iload_n C 3 xd_L_argumentsOf_0 rfl rfl ?_
  refine aw_iload_n C 2 xd_L_argumentsOf_1 rfl rfl ?_
  refine aw_icmp_ne (tgt := 12) C xd_L_argumentsOf_2 (by decide) (fun c_2 => ?_) (fun c_2 => ?_)
  · rw [if_neg c_2] at hm
    refine aw_aload_n C 0 xd_L_argumentsOf_12 rfl rfl ?_
    refine aw_iload_n C 3 xd_L_argumentsOf_13 rfl rfl ?_
    obtain ⟨q_14, e_14, hm⟩ := aw_bnd hm
    refine aw_callVi (As := [.int a3]) (rest := []) (b := ad k0) C (xc_L_has σ k0 a3 _ hk0 e_14) rfl (gw_sub (gw_V xg_L_has ml_L_26 im_L_has se_L_has wi_L)) na_L_has (rm_lt (by decide) (by decide)) ⟨Nat.zero_le _, Nat.zero_le _⟩ k0 (at_L hk0) rfl rfl (Nat.le_of_ble_eq_true rfl) xd_L_argumentsOf_14 ?_
    refine aw_if_eq (tgt := 37) C xd_L_argumentsOf_17 (by decide) (fun c_17 => ?_) (fun c_17 => ?_)
    · rw [if_pos c_17] at hm
      refine aw_iconst (v := (-1 : Int32)) C xd_L_argumentsOf_37 (by decide) ?_
      cases hm
      exact aw_iret C xd_L_argumentsOf_38
    · rw [if_neg c_17] at hm
      refine aw_aload_n C 0 xd_L_argumentsOf_20 rfl rfl ?_
      refine aw_get C k0 (kd_lt hk0) (ly_L hk0) rfl (fun w h => List.mem_cons_of_mem _ (xi_L w h)) 0 (by decide) rfl (List.mem_cons_of_mem _ fl_L_11) xd_L_argumentsOf_21 ?_
      refine aw_iload_n C 3 xd_L_argumentsOf_24 rfl rfl ?_
      obtain ⟨g_25, hm⟩ := aw_grd hm
      refine aw_aald C (k0 + 1) (kd_lt (kf_L_units hk0)) 2 (ly_U6 (kf_L_units hk0)) rfl (aw_in_ok g_25) (if_pos (aw_in_lt g_25)) xd_L_argumentsOf_25 ?_
      refine aw_get C (k0 + 1 + 1 + 9 * (Int32.toNatClampNeg a3)) (kd_lt (ka_U6 (kf_L_units hk0) (aw_in_lt g_25))) (ly_U (ka_U6 (kf_L_units hk0) (aw_in_lt g_25))) rfl (fun w h => List.mem_cons_of_mem _ (xi_U w h)) 5 (by decide) rfl (List.mem_cons_of_mem _ fl_L_73) xd_L_argumentsOf_26 ?_
      refine aw_iload C 4 xd_L_argumentsOf_29 rfl ?_
      obtain ⟨q_31, e_31, hm⟩ := aw_bnd hm
      refine aw_callVi (As := [.int a4]) (rest := []) (b := ad ((k0 + 1 + 1 + 9 * (Int32.toNatClampNeg a3)) + 3)) C (xc_C_argumentsOf σ ((k0 + 1 + 1 + 9 * (Int32.toNatClampNeg a3)) + 3) a4 _ (kf_U_code (ka_U6 (kf_L_units hk0) (aw_in_lt g_25))) e_31) rfl (gw_sub (gw_V xg_C_argumentsOf ml_L_67 im_C_argumentsOf se_C_argumentsOf wi_C)) na_C_argumentsOf (rm_lt (by decide) (by decide)) ⟨Nat.zero_le _, Nat.zero_le _⟩ ((k0 + 1 + 1 + 9 * (Int32.toNatClampNeg a3)) + 3) (at_C (kf_U_code (ka_U6 (kf_L_units hk0) (aw_in_lt g_25)))) rfl rfl (Nat.le_of_ble_eq_true rfl) xd_L_argumentsOf_31 ?_
      refine aw_goto (tgt := 38) C xd_L_argumentsOf_34 (by decide) ?_
      cases hm
      exact aw_iret C xd_L_argumentsOf_38
  · rw [if_pos c_2] at hm
    refine aw_aload_n C 1 xd_L_argumentsOf_5 rfl rfl ?_
    refine aw_iload C 4 xd_L_argumentsOf_6 rfl ?_
    obtain ⟨q_8, e_8, hm⟩ := aw_bnd hm
    refine aw_callVi (As := [.int a4]) (rest := []) (b := ad k1) C (xc_C_argumentsOf σ k1 a4 _ hk1 e_8) rfl (gw_sub (gw_V xg_C_argumentsOf ml_L_67 im_C_argumentsOf se_C_argumentsOf wi_C)) na_C_argumentsOf (rm_lt (by decide) (by decide)) ⟨Nat.zero_le _, Nat.zero_le _⟩ k1 (at_C hk1) rfl rfl (Nat.le_of_ble_eq_true rfl) xd_L_argumentsOf_8 ?_
    cases hm
    exact aw_iret C xd_L_argumentsOf_11
def xm_L_partsOf (σ : aw_m) (k0 : Nat) (k1 : Nat) (a2 : Int32) (a3 : Int32) : Option Int32 := if aw_in a3 42 = true then (if σ (k1 + 3) (Int32.toNatClampNeg a3) = (11 : Int32) then if aw_in a3 42 = true then if aw_in a3 42 = true then (xm_L_argumentsOf σ k0 k1 a2 (σ (k1 + 4) (Int32.toNatClampNeg a3)) (σ (k1 + 5) (Int32.toNatClampNeg a3))).bind fun q_30 => some q_30 else none else none else if aw_in (σ (k1 + 3) (Int32.toNatClampNeg a3)) 12 = true then some (zp_parts (Int32.toNatClampNeg (σ (k1 + 3) (Int32.toNatClampNeg a3)))) else none) else none
set_option maxHeartbeats 4000000 in
set_option maxRecDepth 100000 in
theorem xc_L_partsOf (σ : aw_m) (k0 : Nat) (k1 : Nat) (a2 : Int32) (a3 : Int32) (q : Int32) (hk0 : kd_k k0 = 4) (hk1 : kd_k k1 = 1) (hm : xm_L_partsOf σ k0 k1 a2 a3 = some q) : aw_M l D (ty_z ids) (zs_T ps) xy_L_partsOf (xw_L_partsOf :: gw_l) (rm_D (3)) [.ref (ad k0), .ref (ad k1), .int a2, .int a3] (cw_w ad ids σ) (some (.int q)) (cw_w ad ids σ) := by
  refine aw_intro (cc := xb_L_partsOf) (n := 5) (ret := (some .int)) "ModuleShelf$Library" rfl (by decide) rfl (Nat.le_of_ble_eq_true rfl) ?_
  intro κ C
  unfold xm_L_partsOf at hm
  refine aw_aload_n C 1 xd_L_partsOf_0 rfl rfl ?_
  refine aw_get C k1 (kd_lt hk1) (ly_C hk1) rfl (fun w h => List.mem_cons_of_mem _ (xi_C w h)) 4 (by decide) rfl (List.mem_cons_of_mem _ fl_L_64) xd_L_partsOf_1 ?_
  refine aw_iload_n C 3 xd_L_partsOf_4 rfl rfl ?_
  obtain ⟨g_5, hm⟩ := aw_grd hm
  refine aw_iald C (k1 + 3) (kd_lt (kf_C_ops hk1)) 0 (ly_A42 (kf_C_ops hk1)) rfl (aw_in_ok g_5) xd_L_partsOf_5 ?_
  refine aw_istore (L' := [(4, .int (σ (k1 + 3) (Int32.toNatClampNeg a3))), (0, .ref (ad k0)), (1, .ref (ad k1)), (2, .int a2), (3, .int a3)]) C xd_L_partsOf_6 (by decide) rfl ?_
  refine aw_iload C 0 xd_L_partsOf_8 rfl ?_
  refine aw_bipush (v := (11 : Int32)) C xd_L_partsOf_10 (by decide) ?_
  refine aw_icmp_ne (tgt := 36) C xd_L_partsOf_12 (by decide) (fun c_12 => ?_) (fun c_12 => ?_)
  · rw [if_neg c_12] at hm
    refine aw_getsN C (z := (("ModuleShelf", "PARTS"), ps, 12, zp_parts)) List.mem_cons_self (List.mem_of_getElem? (i := 8) rfl) xd_L_partsOf_36 ?_
    refine aw_iload C 0 xd_L_partsOf_39 rfl ?_
    obtain ⟨g_41, hm⟩ := aw_grd hm
    refine aw_sald C (z := (("ModuleShelf", "PARTS"), ps, 12, zp_parts)) List.mem_cons_self (aw_in_ok g_41) xd_L_partsOf_41 ?_
    cases hm
    exact aw_iret C xd_L_partsOf_42
  · rw [if_pos c_12] at hm
    refine aw_aload_n C 1 xd_L_partsOf_15 rfl rfl ?_
    refine aw_aload_n C 2 xd_L_partsOf_16 rfl rfl ?_
    refine aw_iload_n C 3 xd_L_partsOf_17 rfl rfl ?_
    refine aw_aload_n C 2 xd_L_partsOf_18 rfl rfl ?_
    refine aw_get C k1 (kd_lt hk1) (ly_C hk1) rfl (fun w h => List.mem_cons_of_mem _ (xi_C w h)) 5 (by decide) rfl (List.mem_cons_of_mem _ fl_L_57) xd_L_partsOf_19 ?_
    refine aw_iload_n C 4 xd_L_partsOf_22 rfl rfl ?_
    obtain ⟨g_23, hm⟩ := aw_grd hm
    refine aw_iald C (k1 + 4) (kd_lt (kf_C_as hk1)) 0 (ly_A42 (kf_C_as hk1)) rfl (aw_in_ok g_23) xd_L_partsOf_23 ?_
    refine aw_aload_n C 2 xd_L_partsOf_24 rfl rfl ?_
    refine aw_get C k1 (kd_lt hk1) (ly_C hk1) rfl (fun w h => List.mem_cons_of_mem _ (xi_C w h)) 6 (by decide) rfl (List.mem_cons_of_mem _ fl_L_61) xd_L_partsOf_25 ?_
    refine aw_iload_n C 4 xd_L_partsOf_28 rfl rfl ?_
    obtain ⟨g_29, hm⟩ := aw_grd hm
    refine aw_iald C (k1 + 5) (kd_lt (kf_C_bs hk1)) 0 (ly_A42 (kf_C_bs hk1)) rfl (aw_in_ok g_29) xd_L_partsOf_29 ?_
    obtain ⟨q_30, e_30, hm⟩ := aw_bnd hm
    refine aw_callVi (As := [.ref (ad k1), .int a2, .int (σ (k1 + 4) (Int32.toNatClampNeg a3)), .int (σ (k1 + 5) (Int32.toNatClampNeg a3))]) (rest := []) (b := ad k0) C (xc_L_argumentsOf σ k0 k1 a2 (σ (k1 + 4) (Int32.toNatClampNeg a3)) (σ (k1 + 5) (Int32.toNatClampNeg a3)) _ hk0 hk1 e_30) rfl (gw_sub (gw_V xg_L_argumentsOf ml_L_77 im_L_argumentsOf se_L_argumentsOf wi_L)) na_L_argumentsOf (rm_lt (by decide) (by decide)) ⟨Nat.zero_le _, Nat.zero_le _⟩ k0 (at_L hk0) rfl rfl (Nat.le_of_ble_eq_true rfl) xd_L_partsOf_30 ?_
    refine aw_goto (tgt := 42) C xd_L_partsOf_33 (by decide) ?_
    cases hm
    exact aw_iret C xd_L_partsOf_42
def xm_L_isRight (σ : aw_m) (k0 : Nat) (k1 : Nat) (a2 : Int32) (a3 : Int32) (a4 : Int32) : Option Int32 := if aw_in a4 42 = true then if aw_in a4 42 = true then if aw_in a4 42 = true then (if σ (k1 + 3) (Int32.toNatClampNeg a4) = (1 : Int32) then (if σ (k1 + 4) (Int32.toNatClampNeg a4) < 0 then some (0 : Int32) else (xm_C_argumentsOf σ k1 a3).bind fun q_77 => (if q_77 ≤ σ (k1 + 4) (Int32.toNatClampNeg a4) then some (0 : Int32) else some (1 : Int32))) else (if σ (k1 + 3) (Int32.toNatClampNeg a4) = (2 : Int32) then (if σ (k1 + 4) (Int32.toNatClampNeg a4) = a2 then (xm_C_hasVariable σ k1 (σ (k1 + 5) (Int32.toNatClampNeg a4))).bind fun q_98 => if q_98 = 0 ∨ q_98 = 1 then some q_98 else none else (xm_L_has σ k0 (σ (k1 + 4) (Int32.toNatClampNeg a4))).bind fun q_107 => (if q_107 = 0 then some (0 : Int32) else if aw_in (σ (k1 + 4) (Int32.toNatClampNeg a4)) 6 = true then (xm_C_hasVariable σ ((k0 + 1 + 1 + 9 * (Int32.toNatClampNeg (σ (k1 + 4) (Int32.toNatClampNeg a4)))) + 3) (σ (k1 + 5) (Int32.toNatClampNeg a4))).bind fun q_125 => (if q_125 = 0 then some (0 : Int32) else some (1 : Int32)) else none)) else (if σ (k1 + 3) (Int32.toNatClampNeg a4) = (3 : Int32) then (xm_C_hasVariable σ k1 (σ (k1 + 5) (Int32.toNatClampNeg a4))).bind fun q_140 => if q_140 = 0 ∨ q_140 = 1 then some q_140 else none else (if σ (k1 + 3) (Int32.toNatClampNeg a4) = (11 : Int32) then (xm_L_argumentsOf σ k0 k1 a2 (σ (k1 + 4) (Int32.toNatClampNeg a4)) (σ (k1 + 5) (Int32.toNatClampNeg a4))).bind fun q_151 => (if q_151 = (-1 : Int32) then some (0 : Int32) else some (1 : Int32)) else some (1 : Int32))))) else none else none else none
set_option maxHeartbeats 4000000 in
set_option maxRecDepth 100000 in
theorem xc_L_isRight (σ : aw_m) (k0 : Nat) (k1 : Nat) (a2 : Int32) (a3 : Int32) (a4 : Int32) (q : Int32) (hk0 : kd_k k0 = 4) (hk1 : kd_k k1 = 1) (hm : xm_L_isRight σ k0 k1 a2 a3 a4 = some q) : aw_M l D (ty_z ids) (zs_T ps) xy_L_isRight (xw_L_isRight :: gw_l) (rm_D (3)) [.ref (ad k0), .ref (ad k1), .int a2, .int a3, .int a4] (cw_w ad ids σ) (some (.int q)) (cw_w ad ids σ) := by
  refine aw_intro (cc := xb_L_isRight) (n := 7) (ret := (some .boolean)) "ModuleShelf$Library" rfl (by decide) rfl (Nat.le_of_ble_eq_true rfl) ?_
  intro κ C
  unfold xm_L_isRight at hm
  refine aw_aload_n C 1 xd_L_isRight_0 rfl rfl ?_
  refine aw_get C k1 (kd_lt hk1) (ly_C hk1) rfl (fun w h => List.mem_cons_of_mem _ (xi_C w h)) 5 (by decide) rfl (List.mem_cons_of_mem _ fl_L_57) xd_L_isRight_1 ?_
  refine aw_iload C 4 xd_L_isRight_4 rfl ?_
  obtain ⟨g_6, hm⟩ := aw_grd hm
  refine aw_iald C (k1 + 4) (kd_lt (kf_C_as hk1)) 0 (ly_A42 (kf_C_as hk1)) rfl (aw_in_ok g_6) xd_L_isRight_6 ?_
  refine aw_istore (L' := [(5, .int (σ (k1 + 4) (Int32.toNatClampNeg a4))), (0, .ref (ad k0)), (1, .ref (ad k1)), (2, .int a2), (3, .int a3), (4, .int a4)]) C xd_L_isRight_7 (by decide) rfl ?_
  refine aw_aload_n C 2 xd_L_isRight_9 rfl rfl ?_
  refine aw_get C k1 (kd_lt hk1) (ly_C hk1) rfl (fun w h => List.mem_cons_of_mem _ (xi_C w h)) 6 (by decide) rfl (List.mem_cons_of_mem _ fl_L_61) xd_L_isRight_10 ?_
  refine aw_iload C 5 xd_L_isRight_13 rfl ?_
  obtain ⟨g_15, hm⟩ := aw_grd hm
  refine aw_iald C (k1 + 5) (kd_lt (kf_C_bs hk1)) 0 (ly_A42 (kf_C_bs hk1)) rfl (aw_in_ok g_15) xd_L_isRight_15 ?_
  refine aw_istore (L' := [(6, .int (σ (k1 + 5) (Int32.toNatClampNeg a4))), (5, .int (σ (k1 + 4) (Int32.toNatClampNeg a4))), (0, .ref (ad k0)), (1, .ref (ad k1)), (2, .int a2), (3, .int a3), (4, .int a4)]) C xd_L_isRight_16 (by decide) rfl ?_
  refine aw_aload_n C 3 xd_L_isRight_18 rfl rfl ?_
  refine aw_get C k1 (kd_lt hk1) (ly_C hk1) rfl (fun w h => List.mem_cons_of_mem _ (xi_C w h)) 4 (by decide) rfl (List.mem_cons_of_mem _ fl_L_64) xd_L_isRight_19 ?_
  refine aw_iload C 6 xd_L_isRight_22 rfl ?_
  obtain ⟨g_24, hm⟩ := aw_grd hm
  refine aw_iald C (k1 + 3) (kd_lt (kf_C_ops hk1)) 0 (ly_A42 (kf_C_ops hk1)) rfl (aw_in_ok g_24) xd_L_isRight_24 ?_
  by_cases c_25_1 : σ (k1 + 3) (Int32.toNatClampNeg a4) = (1 : Int32)
  · rw [if_pos c_25_1] at hm
    refine aw_lookup (off := 43) (tgt := 68) C xd_L_isRight_25 (by decide) (by rw [c_25_1]; decide) (by decide) ?_
    refine aw_iload C 1 xd_L_isRight_68 rfl ?_
    refine aw_if_lt (tgt := 87) C xd_L_isRight_70 (by decide) (fun c_70 => ?_) (fun c_70 => ?_)
    · rw [if_pos c_70] at hm
      refine aw_iconst (v := (0 : Int32)) C xd_L_isRight_87 (by decide) ?_
      cases hm
      exact aw_zret C (by decide) xd_L_isRight_88
    · rw [if_neg c_70] at hm
      refine aw_iload C 1 xd_L_isRight_73 rfl ?_
      refine aw_aload_n C 3 xd_L_isRight_75 rfl rfl ?_
      refine aw_iload_n C 5 xd_L_isRight_76 rfl rfl ?_
      obtain ⟨q_77, e_77, hm⟩ := aw_bnd hm
      refine aw_callVi (As := [.int a3]) (rest := [.int (σ (k1 + 4) (Int32.toNatClampNeg a4))]) (b := ad k1) C (xc_C_argumentsOf σ k1 a3 _ hk1 e_77) rfl (gw_sub (gw_V xg_C_argumentsOf ml_L_67 im_C_argumentsOf se_C_argumentsOf wi_C)) na_C_argumentsOf (rm_lt (by decide) (by decide)) ⟨Nat.zero_le _, Nat.zero_le _⟩ k1 (at_C hk1) rfl rfl (Nat.le_of_ble_eq_true rfl) xd_L_isRight_77 ?_
      refine aw_icmp_ge (tgt := 87) C xd_L_isRight_80 (by decide) (fun c_80 => ?_) (fun c_80 => ?_)
      · rw [if_pos c_80] at hm
        refine aw_iconst (v := (0 : Int32)) C xd_L_isRight_87 (by decide) ?_
        cases hm
        exact aw_zret C (by decide) xd_L_isRight_88
      · rw [if_neg c_80] at hm
        refine aw_iconst (v := (1 : Int32)) C xd_L_isRight_83 (by decide) ?_
        refine aw_goto (tgt := 88) C xd_L_isRight_84 (by decide) ?_
        cases hm
        exact aw_zret C (by decide) xd_L_isRight_88
  rw [if_neg c_25_1] at hm
  by_cases c_25_2 : σ (k1 + 3) (Int32.toNatClampNeg a4) = (2 : Int32)
  · rw [if_pos c_25_2] at hm
    refine aw_lookup (off := 64) (tgt := 89) C xd_L_isRight_25 (by decide) (by rw [c_25_2]; decide) (by decide) ?_
    refine aw_iload C 1 xd_L_isRight_89 rfl ?_
    refine aw_iload_n C 4 xd_L_isRight_91 rfl rfl ?_
    refine aw_icmp_ne (tgt := 104) C xd_L_isRight_92 (by decide) (fun c_92 => ?_) (fun c_92 => ?_)
    · rw [if_neg c_92] at hm
      refine aw_aload_n C 2 xd_L_isRight_104 rfl rfl ?_
      refine aw_iload C 1 xd_L_isRight_105 rfl ?_
      obtain ⟨q_107, e_107, hm⟩ := aw_bnd hm
      refine aw_callVi (As := [.int (σ (k1 + 4) (Int32.toNatClampNeg a4))]) (rest := []) (b := ad k0) C (xc_L_has σ k0 (σ (k1 + 4) (Int32.toNatClampNeg a4)) _ hk0 e_107) rfl (gw_sub (gw_V xg_L_has ml_L_26 im_L_has se_L_has wi_L)) na_L_has (rm_lt (by decide) (by decide)) ⟨Nat.zero_le _, Nat.zero_le _⟩ k0 (at_L hk0) rfl rfl (Nat.le_of_ble_eq_true rfl) xd_L_isRight_107 ?_
      refine aw_if_eq (tgt := 135) C xd_L_isRight_110 (by decide) (fun c_110 => ?_) (fun c_110 => ?_)
      · rw [if_pos c_110] at hm
        refine aw_iconst (v := (0 : Int32)) C xd_L_isRight_135 (by decide) ?_
        cases hm
        exact aw_zret C (by decide) xd_L_isRight_136
      · rw [if_neg c_110] at hm
        refine aw_aload_n C 2 xd_L_isRight_113 rfl rfl ?_
        refine aw_get C k0 (kd_lt hk0) (ly_L hk0) rfl (fun w h => List.mem_cons_of_mem _ (xi_L w h)) 0 (by decide) rfl (List.mem_cons_of_mem _ fl_L_11) xd_L_isRight_114 ?_
        refine aw_iload C 1 xd_L_isRight_117 rfl ?_
        obtain ⟨g_119, hm⟩ := aw_grd hm
        refine aw_aald C (k0 + 1) (kd_lt (kf_L_units hk0)) 2 (ly_U6 (kf_L_units hk0)) rfl (aw_in_ok g_119) (if_pos (aw_in_lt g_119)) xd_L_isRight_119 ?_
        refine aw_get C (k0 + 1 + 1 + 9 * (Int32.toNatClampNeg (σ (k1 + 4) (Int32.toNatClampNeg a4)))) (kd_lt (ka_U6 (kf_L_units hk0) (aw_in_lt g_119))) (ly_U (ka_U6 (kf_L_units hk0) (aw_in_lt g_119))) rfl (fun w h => List.mem_cons_of_mem _ (xi_U w h)) 5 (by decide) rfl (List.mem_cons_of_mem _ fl_L_73) xd_L_isRight_120 ?_
        refine aw_iload C 0 xd_L_isRight_123 rfl ?_
        obtain ⟨q_125, e_125, hm⟩ := aw_bnd hm
        refine aw_callVi (As := [.int (σ (k1 + 5) (Int32.toNatClampNeg a4))]) (rest := []) (b := ad ((k0 + 1 + 1 + 9 * (Int32.toNatClampNeg (σ (k1 + 4) (Int32.toNatClampNeg a4)))) + 3)) C (xc_C_hasVariable σ ((k0 + 1 + 1 + 9 * (Int32.toNatClampNeg (σ (k1 + 4) (Int32.toNatClampNeg a4)))) + 3) (σ (k1 + 5) (Int32.toNatClampNeg a4)) _ (kf_U_code (ka_U6 (kf_L_units hk0) (aw_in_lt g_119))) e_125) rfl (gw_sub (gw_V xg_C_hasVariable ml_L_70 im_C_hasVariable se_C_hasVariable wi_C)) na_C_hasVariable (rm_lt (by decide) (by decide)) ⟨Nat.zero_le _, Nat.zero_le _⟩ ((k0 + 1 + 1 + 9 * (Int32.toNatClampNeg (σ (k1 + 4) (Int32.toNatClampNeg a4)))) + 3) (at_C (kf_U_code (ka_U6 (kf_L_units hk0) (aw_in_lt g_119)))) rfl rfl (Nat.le_of_ble_eq_true rfl) xd_L_isRight_125 ?_
        refine aw_if_eq (tgt := 135) C xd_L_isRight_128 (by decide) (fun c_128 => ?_) (fun c_128 => ?_)
        · rw [if_pos c_128] at hm
          refine aw_iconst (v := (0 : Int32)) C xd_L_isRight_135 (by decide) ?_
          cases hm
          exact aw_zret C (by decide) xd_L_isRight_136
        · rw [if_neg c_128] at hm
          refine aw_iconst (v := (1 : Int32)) C xd_L_isRight_131 (by decide) ?_
          refine aw_goto (tgt := 136) C xd_L_isRight_132 (by decide) ?_
          cases hm
          exact aw_zret C (by decide) xd_L_isRight_136
    · rw [if_pos c_92] at hm
      refine aw_aload_n C 3 xd_L_isRight_95 rfl rfl ?_
      refine aw_iload C 0 xd_L_isRight_96 rfl ?_
      obtain ⟨q_98, e_98, hm⟩ := aw_bnd hm
      refine aw_callVi (As := [.int (σ (k1 + 5) (Int32.toNatClampNeg a4))]) (rest := []) (b := ad k1) C (xc_C_hasVariable σ k1 (σ (k1 + 5) (Int32.toNatClampNeg a4)) _ hk1 e_98) rfl (gw_sub (gw_V xg_C_hasVariable ml_L_70 im_C_hasVariable se_C_hasVariable wi_C)) na_C_hasVariable (rm_lt (by decide) (by decide)) ⟨Nat.zero_le _, Nat.zero_le _⟩ k1 (at_C hk1) rfl rfl (Nat.le_of_ble_eq_true rfl) xd_L_isRight_98 ?_
      refine aw_goto (tgt := 136) C xd_L_isRight_101 (by decide) ?_
      obtain ⟨g_136, hm⟩ := aw_grd hm
      cases hm
      exact aw_zret C g_136 xd_L_isRight_136
  rw [if_neg c_25_2] at hm
  by_cases c_25_3 : σ (k1 + 3) (Int32.toNatClampNeg a4) = (3 : Int32)
  · rw [if_pos c_25_3] at hm
    refine aw_lookup (off := 112) (tgt := 137) C xd_L_isRight_25 (by decide) (by rw [c_25_3]; decide) (by decide) ?_
    refine aw_aload_n C 3 xd_L_isRight_137 rfl rfl ?_
    refine aw_iload C 0 xd_L_isRight_138 rfl ?_
    obtain ⟨q_140, e_140, hm⟩ := aw_bnd hm
    refine aw_callVi (As := [.int (σ (k1 + 5) (Int32.toNatClampNeg a4))]) (rest := []) (b := ad k1) C (xc_C_hasVariable σ k1 (σ (k1 + 5) (Int32.toNatClampNeg a4)) _ hk1 e_140) rfl (gw_sub (gw_V xg_C_hasVariable ml_L_70 im_C_hasVariable se_C_hasVariable wi_C)) na_C_hasVariable (rm_lt (by decide) (by decide)) ⟨Nat.zero_le _, Nat.zero_le _⟩ k1 (at_C hk1) rfl rfl (Nat.le_of_ble_eq_true rfl) xd_L_isRight_140 ?_
    obtain ⟨g_143, hm⟩ := aw_grd hm
    cases hm
    exact aw_zret C g_143 xd_L_isRight_143
  rw [if_neg c_25_3] at hm
  by_cases c_25_11 : σ (k1 + 3) (Int32.toNatClampNeg a4) = (11 : Int32)
  · rw [if_pos c_25_11] at hm
    refine aw_lookup (off := 119) (tgt := 144) C xd_L_isRight_25 (by decide) (by rw [c_25_11]; decide) (by decide) ?_
    refine aw_aload_n C 2 xd_L_isRight_144 rfl rfl ?_
    refine aw_aload_n C 3 xd_L_isRight_145 rfl rfl ?_
    refine aw_iload_n C 4 xd_L_isRight_146 rfl rfl ?_
    refine aw_iload C 1 xd_L_isRight_147 rfl ?_
    refine aw_iload C 0 xd_L_isRight_149 rfl ?_
    obtain ⟨q_151, e_151, hm⟩ := aw_bnd hm
    refine aw_callVi (As := [.ref (ad k1), .int a2, .int (σ (k1 + 4) (Int32.toNatClampNeg a4)), .int (σ (k1 + 5) (Int32.toNatClampNeg a4))]) (rest := []) (b := ad k0) C (xc_L_argumentsOf σ k0 k1 a2 (σ (k1 + 4) (Int32.toNatClampNeg a4)) (σ (k1 + 5) (Int32.toNatClampNeg a4)) _ hk0 hk1 e_151) rfl (gw_sub (gw_V xg_L_argumentsOf ml_L_77 im_L_argumentsOf se_L_argumentsOf wi_L)) na_L_argumentsOf (rm_lt (by decide) (by decide)) ⟨Nat.zero_le _, Nat.zero_le _⟩ k0 (at_L hk0) rfl rfl (Nat.le_of_ble_eq_true rfl) xd_L_isRight_151 ?_
    refine aw_iconst (v := (-1 : Int32)) C xd_L_isRight_154 (by decide) ?_
    refine aw_icmp_eq (tgt := 162) C xd_L_isRight_155 (by decide) (fun c_155 => ?_) (fun c_155 => ?_)
    · rw [if_pos c_155] at hm
      refine aw_iconst (v := (0 : Int32)) C xd_L_isRight_162 (by decide) ?_
      cases hm
      exact aw_zret C (by decide) xd_L_isRight_163
    · rw [if_neg c_155] at hm
      refine aw_iconst (v := (1 : Int32)) C xd_L_isRight_158 (by decide) ?_
      refine aw_goto (tgt := 163) C xd_L_isRight_159 (by decide) ?_
      cases hm
      exact aw_zret C (by decide) xd_L_isRight_163
  rw [if_neg c_25_11] at hm
  refine aw_lookup (off := 139) (tgt := 164) C xd_L_isRight_25 (by decide) (by show Op.lookupswitch.offset [(1, 43), (2, 64), (3, 112), (11, 119)] _ _ = _; rw [lv_osw c_25_1 (by decide), lv_osw c_25_2 (by decide), lv_osw c_25_3 (by decide), lv_osw c_25_11 (by decide)]; rfl) (by decide) ?_
  refine aw_iconst (v := (1 : Int32)) C xd_L_isRight_164 (by decide) ?_
  cases hm
  exact aw_zret C (by decide) xd_L_isRight_165
def xq_L_isExpression_68 (W : aw_m → Nat → Nat → Int32 → Int32 → Int32 → Option (Int32 × aw_m))  : Nat → aw_m → Nat → Nat → Int32 → Int32 → Int32 → Int32 → Int32 → Int32 → Option (Int32 × aw_m)
  | 0, _, _, _, _, _, _, _, _, _ => none
  | n + 1, σ, j0, j1, v2, v3, v4, v5, v6, v7 => (if v6 ≤ v7 then some ((1 : Int32), σ) else (W σ j0 j1 v2 v3 (v4 + (1 : Int32))).bind fun q_83 => (if q_83.1 = 0 then some ((0 : Int32), q_83.2) else xq_L_isExpression_68 W n q_83.2 j0 j1 v2 v3 v4 v5 v6 (v7 + (1 : Int32))))
def xm_L_isExpression_b (W : aw_m → Nat → Nat → Int32 → Int32 → Int32 → Option (Int32 × aw_m)) (σ : aw_m) (k0 : Nat) (k1 : Nat) (a2 : Int32) (a3 : Int32) (a4 : Int32) : Option (Int32 × aw_m) := (if (4 : Int32) < a4 then some ((0 : Int32), σ) else (xm_C_lengthOf σ k1 a3).bind fun q_12 => (if σ k0 2 < q_12 then (xm_C_cellOf σ k1 a3 (σ k0 2)).bind fun q_26 => (xm_L_isRight σ k0 k1 a2 a3 q_26).bind fun q_37 => (if q_37 = 0 then some ((0 : Int32), σ) else (xm_L_partsOf σ k0 k1 a2 q_26).bind fun q_50 => aw_l (aw_p σ k0 2 ((σ k0 2) + (1 : Int32))) fun s_62 => xq_L_isExpression_68 W 64 s_62 k0 k1 a2 a3 a4 q_26 q_50 (0 : Int32)) else some ((0 : Int32), σ)))
def xm_L_isExpression : Nat → aw_m → Nat → Nat → Int32 → Int32 → Int32 → Option (Int32 × aw_m)
  | 0 => fun _ _ _ _ _ _ => none
  | d + 1 => xm_L_isExpression_b (xm_L_isExpression d)
set_option maxHeartbeats 4000000 in
set_option maxRecDepth 100000 in
theorem xl_L_isExpression_68 (W : aw_m → Nat → Nat → Int32 → Int32 → Int32 → Option (Int32 × aw_m)) (dw : Nat) (hW : ∀ (σ : aw_m) (k0 : Nat) (k1 : Nat) (a2 : Int32) (a3 : Int32) (a4 : Int32) (q : Int32 × aw_m) (hk0 : kd_k k0 = 4) (hk1 : kd_k k1 = 1), W σ k0 k1 a2 a3 a4 = some q → aw_M l D (ty_z ids) (zs_T ps) xy_L_isExpression (xw_L_isExpression :: gw_l) (rm_D (dw)) [.ref (ad k0), .ref (ad k1), .int a2, .int a3, .int a4] (cw_w ad ids σ) (some (.int q.1)) (cw_w ad ids q.2))  {κ : aw_K} (q : Int32 × aw_m) (C : aw_X l D (ty_z ids) (zs_T ps) (rm_D (dw + 4)) xb_L_isExpression 8 "ModuleShelf$Library" (xw_L_isExpression :: gw_l) (some .boolean) (some (.int q.1)) (cw_w ad ids q.2) κ) : ∀ (n : Nat) (σ : aw_m) (j0 : Nat) (j1 : Nat) (v2 : Int32) (v3 : Int32) (v4 : Int32) (v5 : Int32) (v6 : Int32) (v7 : Int32) (hj0 : kd_k j0 = 4) (hj1 : kd_k j1 = 1), xq_L_isExpression_68 W n σ j0 j1 v2 v3 v4 v5 v6 v7 = some q → aw_J κ 0 0 (cw_w ad ids σ) [(0, .ref (ad j0)), (1, .ref (ad j1)), (2, .int v2), (3, .int v3), (4, .int v4), (5, .int v5), (6, .int v6), (7, .int v7)] 68 [] := by
  intro n
  induction n with
  | zero => intro σ j0 j1 v2 v3 v4 v5 v6 v7 hj0 hj1 hm; cases hm
  | succ n ih =>
    intro σ j0 j1 v2 v3 v4 v5 v6 v7 hj0 hj1 hm
    rw [xq_L_isExpression_68] at hm
    refine aw_iload C 7 xd_L_isExpression_68 rfl ?_
    refine aw_iload C 6 xd_L_isExpression_70 rfl ?_
    refine aw_icmp_ge (tgt := 97) C xd_L_isExpression_72 (by decide) (fun c_72 => ?_) (fun c_72 => ?_)
    · rw [if_pos c_72] at hm
      refine aw_iconst (v := (1 : Int32)) C xd_L_isExpression_97 (by decide) ?_
      cases hm
      exact aw_zret C (by decide) xd_L_isExpression_98
    · rw [if_neg c_72] at hm
      refine aw_aload_n C 0 xd_L_isExpression_75 rfl rfl ?_
      refine aw_aload_n C 1 xd_L_isExpression_76 rfl rfl ?_
      refine aw_iload_n C 2 xd_L_isExpression_77 rfl rfl ?_
      refine aw_iload_n C 3 xd_L_isExpression_78 rfl rfl ?_
      refine aw_iload C 4 xd_L_isExpression_79 rfl ?_
      refine aw_iconst (v := (1 : Int32)) C xd_L_isExpression_81 (by decide) ?_
      refine aw_iadd C xd_L_isExpression_82 ?_
      obtain ⟨q_83, e_83, hm⟩ := aw_bnd hm
      refine aw_callVi (As := [.ref (ad j1), .int v2, .int v3, .int (v4 + (1 : Int32))]) (rest := []) (b := ad j0) C (hW σ j0 j1 v2 v3 (v4 + (1 : Int32)) _ hj0 hj1 e_83) rfl (gw_sub (gw_V xg_L_isExpression ml_L_38 im_L_isExpression se_L_isExpression wi_L)) na_L_isExpression (rm_lt (by omega) (by decide)) ⟨Nat.zero_le _, Nat.zero_le _⟩ j0 (at_L hj0) rfl rfl (Nat.le_of_ble_eq_true rfl) xd_L_isExpression_83 ?_
      refine aw_if_ne (tgt := 91) C xd_L_isExpression_86 (by decide) (fun c_86 => ?_) (fun c_86 => ?_)
      · rw [if_neg c_86] at hm
        refine aw_iinc (j := 7) (v := v7 + (1 : Int32)) (L' := [(7, .int (v7 + (1 : Int32))), (0, .ref (ad j0)), (1, .ref (ad j1)), (2, .int v2), (3, .int v3), (4, .int v4), (5, .int v5), (6, .int v6)]) C xd_L_isExpression_91 rfl rfl (by decide) rfl ?_
        refine aw_goto (tgt := 68) C xd_L_isExpression_94 (by decide) ?_
        refine aw_loc (L' := [(0, .ref (ad j0)), (1, .ref (ad j1)), (2, .int v2), (3, .int v3), (4, .int v4), (5, .int v5), (6, .int v6), (7, .int (v7 + (1 : Int32)))]) C [1, 2, 3, 4, 5, 6, 7, 0] rfl ?_
        exact ih q_83.2 j0 j1 v2 v3 v4 v5 v6 (v7 + (1 : Int32)) hj0 hj1 hm
      · rw [if_pos c_86] at hm
        refine aw_iconst (v := (0 : Int32)) C xd_L_isExpression_89 (by decide) ?_
        cases hm
        exact aw_zret C (by decide) xd_L_isExpression_90
set_option maxHeartbeats 4000000 in
set_option maxRecDepth 100000 in
theorem xc_L_isExpression_b (W : aw_m → Nat → Nat → Int32 → Int32 → Int32 → Option (Int32 × aw_m)) (dw : Nat) (hW : ∀ (σ : aw_m) (k0 : Nat) (k1 : Nat) (a2 : Int32) (a3 : Int32) (a4 : Int32) (q : Int32 × aw_m) (hk0 : kd_k k0 = 4) (hk1 : kd_k k1 = 1), W σ k0 k1 a2 a3 a4 = some q → aw_M l D (ty_z ids) (zs_T ps) xy_L_isExpression (xw_L_isExpression :: gw_l) (rm_D (dw)) [.ref (ad k0), .ref (ad k1), .int a2, .int a3, .int a4] (cw_w ad ids σ) (some (.int q.1)) (cw_w ad ids q.2)) (σ : aw_m) (k0 : Nat) (k1 : Nat) (a2 : Int32) (a3 : Int32) (a4 : Int32) (q : Int32 × aw_m) (hk0 : kd_k k0 = 4) (hk1 : kd_k k1 = 1) (hm : xm_L_isExpression_b W σ k0 k1 a2 a3 a4 = some q) : aw_M l D (ty_z ids) (zs_T ps) xy_L_isExpression (xw_L_isExpression :: gw_l) (rm_D (dw + 4)) [.ref (ad k0), .ref (ad k1), .int a2, .int a3, .int a4] (cw_w ad ids σ) (some (.int q.1)) (cw_w ad ids q.2) := by
  refine aw_intro (cc := xb_L_isExpression) (n := 8) (ret := (some .boolean)) "ModuleShelf$Library" rfl (by decide) rfl (Nat.le_of_ble_eq_true rfl) ?_
  intro κ C
  unfold xm_L_isExpression_b at hm
  refine aw_iload C 4 xd_L_isExpression_0 rfl ?_
  refine aw_iconst (v := (4 : Int32)) C xd_L_isExpression_2 (by decide) ?_
  refine aw_icmp_gt (tgt := 18) C xd_L_isExpression_3 (by decide) (fun c_3 => ?_) (fun c_3 => ?_)
  · rw [if_pos c_3] at hm
    refine aw_iconst (v := (0 : Int32)) C xd_L_isExpression_18 (by decide) ?_
    cases hm
    exact aw_zret C (by decide) xd_L_isExpression_19
  · rw [if_neg c_3] at hm
    refine aw_aload_n C 0 xd_L_isExpression_6 rfl rfl ?_
    refine aw_get C k0 (kd_lt hk0) (ly_L hk0) rfl (fun w h => List.mem_cons_of_mem _ (xi_L w h)) 2 (by decide) rfl (List.mem_cons_of_mem _ fl_L_35) xd_L_isExpression_7 ?_
    refine aw_aload_n C 1 xd_L_isExpression_10 rfl rfl ?_
    refine aw_iload_n C 3 xd_L_isExpression_11 rfl rfl ?_
    obtain ⟨q_12, e_12, hm⟩ := aw_bnd hm
    refine aw_callVi (As := [.int a3]) (rest := [.int (σ k0 2)]) (b := ad k1) C (xc_C_lengthOf σ k1 a3 _ hk1 e_12) rfl (gw_sub (gw_V xg_C_lengthOf ml_L_42 im_C_lengthOf se_C_lengthOf wi_C)) na_C_lengthOf (rm_lt (by omega) (by decide)) ⟨Nat.zero_le _, Nat.zero_le _⟩ k1 (at_C hk1) rfl rfl (Nat.le_of_ble_eq_true rfl) xd_L_isExpression_12 ?_
    refine aw_icmp_lt (tgt := 20) C xd_L_isExpression_15 (by decide) (fun c_15 => ?_) (fun c_15 => ?_)
    · rw [if_pos c_15] at hm
      refine aw_aload_n C 1 xd_L_isExpression_20 rfl rfl ?_
      refine aw_iload_n C 3 xd_L_isExpression_21 rfl rfl ?_
      refine aw_aload_n C 0 xd_L_isExpression_22 rfl rfl ?_
      refine aw_get C k0 (kd_lt hk0) (ly_L hk0) rfl (fun w h => List.mem_cons_of_mem _ (xi_L w h)) 2 (by decide) rfl (List.mem_cons_of_mem _ fl_L_35) xd_L_isExpression_23 ?_
      obtain ⟨q_26, e_26, hm⟩ := aw_bnd hm
      refine aw_callVi (As := [.int a3, .int (σ k0 2)]) (rest := []) (b := ad k1) C (xc_C_cellOf σ k1 a3 (σ k0 2) _ hk1 e_26) rfl (gw_sub (gw_V xg_C_cellOf ml_L_46 im_C_cellOf se_C_cellOf wi_C)) na_C_cellOf (rm_lt (by omega) (by decide)) ⟨Nat.zero_le _, Nat.zero_le _⟩ k1 (at_C hk1) rfl rfl (Nat.le_of_ble_eq_true rfl) xd_L_isExpression_26 ?_
      refine aw_istore (L' := [(5, .int q_26), (0, .ref (ad k0)), (1, .ref (ad k1)), (2, .int a2), (3, .int a3), (4, .int a4)]) C xd_L_isExpression_29 (by decide) rfl ?_
      refine aw_aload_n C 1 xd_L_isExpression_31 rfl rfl ?_
      refine aw_aload_n C 2 xd_L_isExpression_32 rfl rfl ?_
      refine aw_iload_n C 3 xd_L_isExpression_33 rfl rfl ?_
      refine aw_iload_n C 4 xd_L_isExpression_34 rfl rfl ?_
      refine aw_iload C 0 xd_L_isExpression_35 rfl ?_
      obtain ⟨q_37, e_37, hm⟩ := aw_bnd hm
      refine aw_callVi (As := [.ref (ad k1), .int a2, .int a3, .int q_26]) (rest := []) (b := ad k0) C (xc_L_isRight σ k0 k1 a2 a3 q_26 _ hk0 hk1 e_37) rfl (gw_sub (gw_V xg_L_isRight ml_L_50 im_L_isRight se_L_isRight wi_L)) na_L_isRight (rm_lt (by omega) (by decide)) ⟨Nat.zero_le _, Nat.zero_le _⟩ k0 (at_L hk0) rfl rfl (Nat.le_of_ble_eq_true rfl) xd_L_isExpression_37 ?_
      refine aw_if_ne (tgt := 45) C xd_L_isExpression_40 (by decide) (fun c_40 => ?_) (fun c_40 => ?_)
      · rw [if_neg c_40] at hm
        refine aw_aload_n C 1 xd_L_isExpression_45 rfl rfl ?_
        refine aw_aload_n C 2 xd_L_isExpression_46 rfl rfl ?_
        refine aw_iload_n C 3 xd_L_isExpression_47 rfl rfl ?_
        refine aw_iload C 0 xd_L_isExpression_48 rfl ?_
        obtain ⟨q_50, e_50, hm⟩ := aw_bnd hm
        refine aw_callVi (As := [.ref (ad k1), .int a2, .int q_26]) (rest := []) (b := ad k0) C (xc_L_partsOf σ k0 k1 a2 q_26 _ hk0 hk1 e_50) rfl (gw_sub (gw_V xg_L_partsOf ml_L_53 im_L_partsOf se_L_partsOf wi_L)) na_L_partsOf (rm_lt (by omega) (by decide)) ⟨Nat.zero_le _, Nat.zero_le _⟩ k0 (at_L hk0) rfl rfl (Nat.le_of_ble_eq_true rfl) xd_L_isExpression_50 ?_
        refine aw_istore (L' := [(6, .int q_50), (5, .int q_26), (0, .ref (ad k0)), (1, .ref (ad k1)), (2, .int a2), (3, .int a3), (4, .int a4)]) C xd_L_isExpression_53 (by decide) rfl ?_
        refine aw_aload_n C 2 xd_L_isExpression_55 rfl rfl ?_
        refine aw_dup C xd_L_isExpression_56 rfl ?_
        refine aw_get C k0 (kd_lt hk0) (ly_L hk0) rfl (fun w h => List.mem_cons_of_mem _ (xi_L w h)) 2 (by decide) rfl (List.mem_cons_of_mem _ fl_L_35) xd_L_isExpression_57 ?_
        refine aw_iconst (v := (1 : Int32)) C xd_L_isExpression_60 (by decide) ?_
        refine aw_iadd C xd_L_isExpression_61 ?_
        obtain ⟨s_62, h_62, hm⟩ := aw_let hm
        refine aw_put (σ1 := s_62) (f := upd (σ k0) 2 ((σ k0 2) + (1 : Int32))) C k0 (kd_lt hk0) (ly_L hk0) rfl (fun w h => List.mem_cons_of_mem _ (xi_L w h)) xk_L xo_L xn_L 2 (by decide) (List.mem_cons_of_mem _ fl_L_35) rfl (ty := .int) (by decide +kernel) rfl rfl (Nat.le_of_ble_eq_true rfl) (ly_L hk0) h_62 xd_L_isExpression_62 ?_
        refine aw_iconst (v := (0 : Int32)) C xd_L_isExpression_65 (by decide) ?_
        refine aw_istore (L' := [(7, .int (0 : Int32)), (6, .int q_50), (5, .int q_26), (0, .ref (ad k0)), (1, .ref (ad k1)), (2, .int a2), (3, .int a3), (4, .int a4)]) C xd_L_isExpression_66 (by decide) rfl ?_
        refine aw_loc (L' := [(0, .ref (ad k0)), (1, .ref (ad k1)), (2, .int a2), (3, .int a3), (4, .int a4), (5, .int q_26), (6, .int q_50), (7, .int (0 : Int32))]) C [3, 4, 5, 6, 7, 2, 1, 0] rfl ?_
        exact xl_L_isExpression_68 W dw hW _ C 64 s_62 k0 k1 a2 a3 a4 q_26 q_50 (0 : Int32) hk0 hk1 hm
      · rw [if_pos c_40] at hm
        refine aw_iconst (v := (0 : Int32)) C xd_L_isExpression_43 (by decide) ?_
        cases hm
        exact aw_zret C (by decide) xd_L_isExpression_44
    · rw [if_neg c_15] at hm
      refine aw_iconst (v := (0 : Int32)) C xd_L_isExpression_18 (by decide) ?_
      cases hm
      exact aw_zret C (by decide) xd_L_isExpression_19
theorem xc_L_isExpression (d : Nat) : ∀ (σ : aw_m) (k0 : Nat) (k1 : Nat) (a2 : Int32) (a3 : Int32) (a4 : Int32) (q : Int32 × aw_m) (hk0 : kd_k k0 = 4) (hk1 : kd_k k1 = 1), xm_L_isExpression d σ k0 k1 a2 a3 a4 = some q → aw_M l D (ty_z ids) (zs_T ps) xy_L_isExpression (xw_L_isExpression :: gw_l) (rm_D (4 * d)) [.ref (ad k0), .ref (ad k1), .int a2, .int a3, .int a4] (cw_w ad ids σ) (some (.int q.1)) (cw_w ad ids q.2) := by
  induction d with
  | zero => intro σ k0 k1 a2 a3 a4 q hk0 hk1 hm; cases hm
  | succ d ih =>
    intro σ k0 k1 a2 a3 a4 q hk0 hk1 hm
    have h := xc_L_isExpression_b (xm_L_isExpression d) (4 * d) ih σ k0 k1 a2 a3 a4 q hk0 hk1 hm
    exact h
def xq_L_firstWrong_2  : Nat → aw_m → Nat → Nat → Int32 → Int32 → Option (Int32 × aw_m)
  | 0, _, _, _, _, _ => none
  | n + 1, σ, j0, j1, v2, v3 => (if σ j1 1 ≤ v3 then some ((-1 : Int32), σ) else aw_l (aw_p σ j0 2 (0 : Int32)) fun s_12 => (xm_L_isExpression 8 s_12 j0 j1 v2 v3 (0 : Int32)).bind fun q_20 => (if q_20.1 = 0 then some (((16 : Int32) * v3) + (q_20.2 j0 2), q_20.2) else (xm_C_lengthOf q_20.2 j1 v3).bind fun q_32 => (if q_32 ≤ q_20.2 j0 2 then xq_L_firstWrong_2 n q_20.2 j0 j1 v2 (v3 + (1 : Int32)) else some (((16 : Int32) * v3) + (q_20.2 j0 2), q_20.2))))
def xm_L_firstWrong (σ : aw_m) (k0 : Nat) (k1 : Nat) (a2 : Int32) : Option (Int32 × aw_m) := xq_L_firstWrong_2 64 σ k0 k1 a2 (0 : Int32)
set_option maxHeartbeats 4000000 in
set_option maxRecDepth 100000 in
theorem xl_L_firstWrong_2  {κ : aw_K} (q : Int32 × aw_m) (C : aw_X l D (ty_z ids) (zs_T ps) (rm_D (33)) xb_L_firstWrong 4 "ModuleShelf$Library" (xw_L_firstWrong :: gw_l) (some .int) (some (.int q.1)) (cw_w ad ids q.2) κ) : ∀ (n : Nat) (σ : aw_m) (j0 : Nat) (j1 : Nat) (v2 : Int32) (v3 : Int32) (hj0 : kd_k j0 = 4) (hj1 : kd_k j1 = 1), xq_L_firstWrong_2 n σ j0 j1 v2 v3 = some q → aw_J κ 0 0 (cw_w ad ids σ) [(0, .ref (ad j0)), (1, .ref (ad j1)), (2, .int v2), (3, .int v3)] 2 [] := by
  intro n
  induction n with
  | zero => intro σ j0 j1 v2 v3 hj0 hj1 hm; cases hm
  | succ n ih =>
    intro σ j0 j1 v2 v3 hj0 hj1 hm
    rw [xq_L_firstWrong_2] at hm
    refine aw_iload_n C 3 xd_L_firstWrong_2 rfl rfl ?_
    refine aw_aload_n C 1 xd_L_firstWrong_3 rfl rfl ?_
    refine aw_get C j1 (kd_lt hj1) (ly_C hj1) rfl (fun w h => List.mem_cons_of_mem _ (xi_C w h)) 1 (by decide) rfl (List.mem_cons_of_mem _ fl_L_29) xd_L_firstWrong_4 ?_
    refine aw_icmp_ge (tgt := 54) C xd_L_firstWrong_7 (by decide) (fun c_7 => ?_) (fun c_7 => ?_)
    · rw [if_pos c_7] at hm
      refine aw_iconst (v := (-1 : Int32)) C xd_L_firstWrong_54 (by decide) ?_
      cases hm
      exact aw_iret C xd_L_firstWrong_55
    · rw [if_neg c_7] at hm
      refine aw_aload_n C 0 xd_L_firstWrong_10 rfl rfl ?_
      refine aw_iconst (v := (0 : Int32)) C xd_L_firstWrong_11 (by decide) ?_
      obtain ⟨s_12, h_12, hm⟩ := aw_let hm
      refine aw_put (σ1 := s_12) (f := upd (σ j0) 2 (0 : Int32)) C j0 (kd_lt hj0) (ly_L hj0) rfl (fun w h => List.mem_cons_of_mem _ (xi_L w h)) xk_L xo_L xn_L 2 (by decide) (List.mem_cons_of_mem _ fl_L_35) rfl (ty := .int) (by decide +kernel) rfl rfl (Nat.le_of_ble_eq_true rfl) (ly_L hj0) h_12 xd_L_firstWrong_12 ?_
      refine aw_aload_n C 0 xd_L_firstWrong_15 rfl rfl ?_
      refine aw_aload_n C 1 xd_L_firstWrong_16 rfl rfl ?_
      refine aw_iload_n C 2 xd_L_firstWrong_17 rfl rfl ?_
      refine aw_iload_n C 3 xd_L_firstWrong_18 rfl rfl ?_
      refine aw_iconst (v := (0 : Int32)) C xd_L_firstWrong_19 (by decide) ?_
      obtain ⟨q_20, e_20, hm⟩ := aw_bnd hm
      refine aw_callVi (As := [.ref (ad j1), .int v2, .int v3, .int (0 : Int32)]) (rest := []) (b := ad j0) C (xc_L_isExpression 8 s_12 j0 j1 v2 v3 (0 : Int32) _ hj0 hj1 e_20) rfl (gw_sub (gw_V xg_L_isExpression ml_L_38 im_L_isExpression se_L_isExpression wi_L)) na_L_isExpression (rm_lt (by decide) (by decide)) ⟨Nat.zero_le _, Nat.zero_le _⟩ j0 (at_L hj0) rfl rfl (Nat.le_of_ble_eq_true rfl) xd_L_firstWrong_20 ?_
      refine aw_if_eq (tgt := 38) C xd_L_firstWrong_23 (by decide) (fun c_23 => ?_) (fun c_23 => ?_)
      · rw [if_pos c_23] at hm
        refine aw_bipush (v := (16 : Int32)) C xd_L_firstWrong_38 (by decide) ?_
        refine aw_iload_n C 3 xd_L_firstWrong_40 rfl rfl ?_
        refine aw_imul C xd_L_firstWrong_41 ?_
        refine aw_aload_n C 0 xd_L_firstWrong_42 rfl rfl ?_
        refine aw_get C j0 (kd_lt hj0) (ly_L hj0) rfl (fun w h => List.mem_cons_of_mem _ (xi_L w h)) 2 (by decide) rfl (List.mem_cons_of_mem _ fl_L_35) xd_L_firstWrong_43 ?_
        refine aw_iadd C xd_L_firstWrong_46 ?_
        cases hm
        exact aw_iret C xd_L_firstWrong_47
      · rw [if_neg c_23] at hm
        refine aw_aload_n C 0 xd_L_firstWrong_26 rfl rfl ?_
        refine aw_get C j0 (kd_lt hj0) (ly_L hj0) rfl (fun w h => List.mem_cons_of_mem _ (xi_L w h)) 2 (by decide) rfl (List.mem_cons_of_mem _ fl_L_35) xd_L_firstWrong_27 ?_
        refine aw_aload_n C 1 xd_L_firstWrong_30 rfl rfl ?_
        refine aw_iload_n C 3 xd_L_firstWrong_31 rfl rfl ?_
        obtain ⟨q_32, e_32, hm⟩ := aw_bnd hm
        refine aw_callVi (As := [.int v3]) (rest := [.int (q_20.2 j0 2)]) (b := ad j1) C (xc_C_lengthOf q_20.2 j1 v3 _ hj1 e_32) rfl (gw_sub (gw_V xg_C_lengthOf ml_L_42 im_C_lengthOf se_C_lengthOf wi_C)) na_C_lengthOf (rm_lt (by decide) (by decide)) ⟨Nat.zero_le _, Nat.zero_le _⟩ j1 (at_C hj1) rfl rfl (Nat.le_of_ble_eq_true rfl) xd_L_firstWrong_32 ?_
        refine aw_icmp_ge (tgt := 48) C xd_L_firstWrong_35 (by decide) (fun c_35 => ?_) (fun c_35 => ?_)
        · rw [if_pos c_35] at hm
          refine aw_iinc (j := 3) (v := v3 + (1 : Int32)) (L' := [(3, .int (v3 + (1 : Int32))), (0, .ref (ad j0)), (1, .ref (ad j1)), (2, .int v2)]) C xd_L_firstWrong_48 rfl rfl (by decide) rfl ?_
          refine aw_goto (tgt := 2) C xd_L_firstWrong_51 (by decide) ?_
          refine aw_loc (L' := [(0, .ref (ad j0)), (1, .ref (ad j1)), (2, .int v2), (3, .int (v3 + (1 : Int32)))]) C [1, 2, 3, 0] rfl ?_
          exact ih q_20.2 j0 j1 v2 (v3 + (1 : Int32)) hj0 hj1 hm
        · rw [if_neg c_35] at hm
          refine aw_bipush (v := (16 : Int32)) C xd_L_firstWrong_38 (by decide) ?_
          refine aw_iload_n C 3 xd_L_firstWrong_40 rfl rfl ?_
          refine aw_imul C xd_L_firstWrong_41 ?_
          refine aw_aload_n C 0 xd_L_firstWrong_42 rfl rfl ?_
          refine aw_get C j0 (kd_lt hj0) (ly_L hj0) rfl (fun w h => List.mem_cons_of_mem _ (xi_L w h)) 2 (by decide) rfl (List.mem_cons_of_mem _ fl_L_35) xd_L_firstWrong_43 ?_
          refine aw_iadd C xd_L_firstWrong_46 ?_
          cases hm
          exact aw_iret C xd_L_firstWrong_47
set_option maxHeartbeats 4000000 in
set_option maxRecDepth 100000 in
theorem xc_L_firstWrong (σ : aw_m) (k0 : Nat) (k1 : Nat) (a2 : Int32) (q : Int32 × aw_m) (hk0 : kd_k k0 = 4) (hk1 : kd_k k1 = 1) (hm : xm_L_firstWrong σ k0 k1 a2 = some q) : aw_M l D (ty_z ids) (zs_T ps) xy_L_firstWrong (xw_L_firstWrong :: gw_l) (rm_D (33)) [.ref (ad k0), .ref (ad k1), .int a2] (cw_w ad ids σ) (some (.int q.1)) (cw_w ad ids q.2) := by
  refine aw_intro (cc := xb_L_firstWrong) (n := 4) (ret := (some .int)) "ModuleShelf$Library" rfl (by decide) rfl (Nat.le_of_ble_eq_true rfl) ?_
  intro κ C
  unfold xm_L_firstWrong at hm
  refine aw_iconst (v := (0 : Int32)) C xd_L_firstWrong_0 (by decide) ?_
  refine aw_istore_n (L' := [(3, .int (0 : Int32)), (0, .ref (ad k0)), (1, .ref (ad k1)), (2, .int a2)]) C xd_L_firstWrong_1 rfl (by decide) rfl ?_
  refine aw_loc (L' := [(0, .ref (ad k0)), (1, .ref (ad k1)), (2, .int a2), (3, .int (0 : Int32))]) C [1, 2, 3, 0] rfl ?_
  exact xl_L_firstWrong_2 _ C 64 σ k0 k1 a2 (0 : Int32) hk0 hk1 hm
def xq_L_gatherImports_25 (c_13 : aw_m → Nat → Nat → Int32 → Nat → Int32 → Option aw_m) : Nat → aw_m → Nat → Nat → Int32 → Nat → Int32 → Int32 → Option aw_m
  | 0, _, _, _, _, _, _, _ => none
  | n + 1, σ, j0, j1, v2, j3, v4, v5 => (xm_C_lengthOf σ j3 v4).bind fun q_30 => (if q_30 ≤ v5 then c_13 σ j0 j1 v2 j3 (v4 + (1 : Int32)) else (xm_C_cellOf σ j3 v4 v5).bind fun q_41 => if aw_in q_41 42 = true then if aw_in q_41 42 = true then (if σ (j3 + 3) (Int32.toNatClampNeg q_41) = (2 : Int32) then (if σ (j3 + 4) (Int32.toNatClampNeg q_41) = v2 then xq_L_gatherImports_25 c_13 n σ j0 j1 v2 j3 v4 (v5 + (1 : Int32)) else (xm_L_has σ j0 (σ (j3 + 4) (Int32.toNatClampNeg q_41))).bind fun q_99 => (if q_99 = 0 then xq_L_gatherImports_25 c_13 n σ j0 j1 v2 j3 v4 (v5 + (1 : Int32)) else if aw_in (σ (j3 + 4) (Int32.toNatClampNeg q_41)) 6 = true then (xm_U_addImport σ j1 (σ (j3 + 4) (Int32.toNatClampNeg q_41)) (σ (j0 + 1 + 1 + 9 * (Int32.toNatClampNeg (σ (j3 + 4) (Int32.toNatClampNeg q_41)))) 1)).bind fun q_118 => xq_L_gatherImports_25 c_13 n q_118 j0 j1 v2 j3 v4 (v5 + (1 : Int32)) else none)) else if aw_in q_41 42 = true then (if σ (j3 + 3) (Int32.toNatClampNeg q_41) = (11 : Int32) then (if σ (j3 + 4) (Int32.toNatClampNeg q_41) = v2 then xq_L_gatherImports_25 c_13 n σ j0 j1 v2 j3 v4 (v5 + (1 : Int32)) else (xm_L_has σ j0 (σ (j3 + 4) (Int32.toNatClampNeg q_41))).bind fun q_99 => (if q_99 = 0 then xq_L_gatherImports_25 c_13 n σ j0 j1 v2 j3 v4 (v5 + (1 : Int32)) else if aw_in (σ (j3 + 4) (Int32.toNatClampNeg q_41)) 6 = true then (xm_U_addImport σ j1 (σ (j3 + 4) (Int32.toNatClampNeg q_41)) (σ (j0 + 1 + 1 + 9 * (Int32.toNatClampNeg (σ (j3 + 4) (Int32.toNatClampNeg q_41)))) 1)).bind fun q_118 => xq_L_gatherImports_25 c_13 n q_118 j0 j1 v2 j3 v4 (v5 + (1 : Int32)) else none)) else xq_L_gatherImports_25 c_13 n σ j0 j1 v2 j3 v4 (v5 + (1 : Int32))) else none) else none else none)
def xq_L_gatherImports_13  : Nat → aw_m → Nat → Nat → Int32 → Nat → Int32 → Option aw_m
  | 0, _, _, _, _, _, _ => none
  | n + 1, σ, j0, j1, v2, j3, v4 => (if σ j3 1 ≤ v4 then some σ else xq_L_gatherImports_25 (xq_L_gatherImports_13 n) 64 σ j0 j1 v2 j3 v4 (0 : Int32))
def xm_L_gatherImports (σ : aw_m) (k0 : Nat) (k1 : Nat) (a2 : Int32) : Option aw_m := aw_l (aw_p σ k1 2 (0 : Int32)) fun s_7 => xq_L_gatherImports_13 64 s_7 k0 k1 a2 (k1 + 3) (0 : Int32)
set_option maxHeartbeats 4000000 in
set_option maxRecDepth 100000 in
theorem xl_L_gatherImports_25 (c_13 : aw_m → Nat → Nat → Int32 → Nat → Int32 → Option aw_m) {κ : aw_K} (q : aw_m) (C : aw_X l D (ty_z ids) (zs_T ps) (rm_D (2)) xb_L_gatherImports 9 "ModuleShelf$Library" (xw_L_gatherImports :: gw_l) none none (cw_w ad ids q) κ) (hc_13 : ∀ (σ : aw_m) (j0 : Nat) (j1 : Nat) (v2 : Int32) (j3 : Nat) (v4 : Int32) (hj0 : kd_k j0 = 4) (hj1 : kd_k j1 = 6) (hj3 : kd_k j3 = 1), c_13 σ j0 j1 v2 j3 v4 = some q → aw_J κ 0 0 (cw_w ad ids σ) [(0, .ref (ad j0)), (1, .ref (ad j1)), (2, .int v2), (3, .ref (ad j3)), (4, .int v4)] 13 []) : ∀ (n : Nat) (σ : aw_m) (j0 : Nat) (j1 : Nat) (v2 : Int32) (j3 : Nat) (v4 : Int32) (v5 : Int32) (hj0 : kd_k j0 = 4) (hj1 : kd_k j1 = 6) (hj3 : kd_k j3 = 1), xq_L_gatherImports_25 c_13 n σ j0 j1 v2 j3 v4 v5 = some q → aw_J κ 0 0 (cw_w ad ids σ) [(0, .ref (ad j0)), (1, .ref (ad j1)), (2, .int v2), (3, .ref (ad j3)), (4, .int v4), (5, .int v5)] 25 [] := by
  intro n
  induction n with
  | zero => intro σ j0 j1 v2 j3 v4 v5 hj0 hj1 hj3 hm; cases hm
  | succ n ih =>
    intro σ j0 j1 v2 j3 v4 v5 hj0 hj1 hj3 hm
    rw [xq_L_gatherImports_25] at hm
    refine aw_iload C 5 xd_L_gatherImports_25 rfl ?_
    refine aw_aload_n C 3 xd_L_gatherImports_27 rfl rfl ?_
    refine aw_iload C 4 xd_L_gatherImports_28 rfl ?_
    obtain ⟨q_30, e_30, hm⟩ := aw_bnd hm
    refine aw_callVi (As := [.int v4]) (rest := [.int v5]) (b := ad j3) C (xc_C_lengthOf σ j3 v4 _ hj3 e_30) rfl (gw_sub (gw_V xg_C_lengthOf ml_L_42 im_C_lengthOf se_C_lengthOf wi_C)) na_C_lengthOf (rm_lt (by decide) (by decide)) ⟨Nat.zero_le _, Nat.zero_le _⟩ j3 (at_C hj3) rfl rfl (Nat.le_of_ble_eq_true rfl) xd_L_gatherImports_30 ?_
    refine aw_icmp_ge (tgt := 127) C xd_L_gatherImports_33 (by decide) (fun c_33 => ?_) (fun c_33 => ?_)
    · rw [if_pos c_33] at hm
      refine aw_iinc (j := 4) (v := v4 + (1 : Int32)) (L' := [(4, .int (v4 + (1 : Int32))), (0, .ref (ad j0)), (1, .ref (ad j1)), (2, .int v2), (3, .ref (ad j3)), (5, .int v5)]) C xd_L_gatherImports_127 rfl rfl (by decide) rfl ?_
      refine aw_goto (tgt := 13) C xd_L_gatherImports_130 (by decide) ?_
      refine aw_loc (L' := [(0, .ref (ad j0)), (1, .ref (ad j1)), (2, .int v2), (3, .ref (ad j3)), (4, .int (v4 + (1 : Int32)))]) C [1, 2, 3, 4, 0] rfl ?_
      exact hc_13 σ j0 j1 v2 j3 (v4 + (1 : Int32)) hj0 hj1 hj3 hm
    · rw [if_neg c_33] at hm
      refine aw_aload_n C 3 xd_L_gatherImports_36 rfl rfl ?_
      refine aw_iload C 4 xd_L_gatherImports_37 rfl ?_
      refine aw_iload C 5 xd_L_gatherImports_39 rfl ?_
      obtain ⟨q_41, e_41, hm⟩ := aw_bnd hm
      refine aw_callVi (As := [.int v4, .int v5]) (rest := []) (b := ad j3) C (xc_C_cellOf σ j3 v4 v5 _ hj3 e_41) rfl (gw_sub (gw_V xg_C_cellOf ml_L_46 im_C_cellOf se_C_cellOf wi_C)) na_C_cellOf (rm_lt (by decide) (by decide)) ⟨Nat.zero_le _, Nat.zero_le _⟩ j3 (at_C hj3) rfl rfl (Nat.le_of_ble_eq_true rfl) xd_L_gatherImports_41 ?_
      refine aw_istore (L' := [(6, .int q_41), (0, .ref (ad j0)), (1, .ref (ad j1)), (2, .int v2), (3, .ref (ad j3)), (4, .int v4), (5, .int v5)]) C xd_L_gatherImports_44 (by decide) rfl ?_
      refine aw_aload_n C 4 xd_L_gatherImports_46 rfl rfl ?_
      refine aw_get C j3 (kd_lt hj3) (ly_C hj3) rfl (fun w h => List.mem_cons_of_mem _ (xi_C w h)) 5 (by decide) rfl (List.mem_cons_of_mem _ fl_L_57) xd_L_gatherImports_47 ?_
      refine aw_iload C 0 xd_L_gatherImports_50 rfl ?_
      obtain ⟨g_52, hm⟩ := aw_grd hm
      refine aw_iald C (j3 + 4) (kd_lt (kf_C_as hj3)) 0 (ly_A42 (kf_C_as hj3)) rfl (aw_in_ok g_52) xd_L_gatherImports_52 ?_
      refine aw_istore (L' := [(7, .int (σ (j3 + 4) (Int32.toNatClampNeg q_41))), (6, .int q_41), (0, .ref (ad j0)), (1, .ref (ad j1)), (2, .int v2), (3, .ref (ad j3)), (4, .int v4), (5, .int v5)]) C xd_L_gatherImports_53 (by decide) rfl ?_
      refine aw_aload_n C 5 xd_L_gatherImports_55 rfl rfl ?_
      refine aw_get C j3 (kd_lt hj3) (ly_C hj3) rfl (fun w h => List.mem_cons_of_mem _ (xi_C w h)) 4 (by decide) rfl (List.mem_cons_of_mem _ fl_L_64) xd_L_gatherImports_56 ?_
      refine aw_iload C 1 xd_L_gatherImports_59 rfl ?_
      obtain ⟨g_61, hm⟩ := aw_grd hm
      refine aw_iald C (j3 + 3) (kd_lt (kf_C_ops hj3)) 0 (ly_A42 (kf_C_ops hj3)) rfl (aw_in_ok g_61) xd_L_gatherImports_61 ?_
      refine aw_iconst (v := (2 : Int32)) C xd_L_gatherImports_62 (by decide) ?_
      refine aw_icmp_eq (tgt := 78) C xd_L_gatherImports_63 (by decide) (fun c_63 => ?_) (fun c_63 => ?_)
      · rw [if_pos c_63] at hm
        refine aw_iconst (v := (1 : Int32)) C xd_L_gatherImports_78 (by decide) ?_
        refine aw_goto (tgt := 83) C xd_L_gatherImports_79 (by decide) ?_
        refine aw_istore (L' := [(8, .int (1 : Int32)), (7, .int (σ (j3 + 4) (Int32.toNatClampNeg q_41))), (6, .int q_41), (0, .ref (ad j0)), (1, .ref (ad j1)), (2, .int v2), (3, .ref (ad j3)), (4, .int v4), (5, .int v5)]) C xd_L_gatherImports_83 (by decide) rfl ?_
        refine aw_iload C 0 xd_L_gatherImports_85 rfl ?_
        refine aw_if_eq (tgt := 121) C xd_L_gatherImports_87 (by decide) (fun c_0 => absurd c_0 (by decide)) (fun _ => ?_)
        refine aw_iload C 1 xd_L_gatherImports_90 rfl ?_
        refine aw_iload_n C 5 xd_L_gatherImports_92 rfl rfl ?_
        refine aw_icmp_eq (tgt := 121) C xd_L_gatherImports_93 (by decide) (fun c_93 => ?_) (fun c_93 => ?_)
        · rw [if_pos c_93] at hm
          refine aw_iinc (j := 8) (v := v5 + (1 : Int32)) (L' := [(5, .int (v5 + (1 : Int32))), (8, .int (1 : Int32)), (7, .int (σ (j3 + 4) (Int32.toNatClampNeg q_41))), (6, .int q_41), (0, .ref (ad j0)), (1, .ref (ad j1)), (2, .int v2), (3, .ref (ad j3)), (4, .int v4)]) C xd_L_gatherImports_121 rfl rfl (by decide) rfl ?_
          refine aw_goto (tgt := 25) C xd_L_gatherImports_124 (by decide) ?_
          refine aw_loc (L' := [(0, .ref (ad j0)), (1, .ref (ad j1)), (2, .int v2), (3, .ref (ad j3)), (4, .int v4), (5, .int (v5 + (1 : Int32)))]) C [4, 5, 6, 7, 8, 0] rfl ?_
          exact ih σ j0 j1 v2 j3 v4 (v5 + (1 : Int32)) hj0 hj1 hj3 hm
        · rw [if_neg c_93] at hm
          refine aw_aload_n C 3 xd_L_gatherImports_96 rfl rfl ?_
          refine aw_iload C 1 xd_L_gatherImports_97 rfl ?_
          obtain ⟨q_99, e_99, hm⟩ := aw_bnd hm
          refine aw_callVi (As := [.int (σ (j3 + 4) (Int32.toNatClampNeg q_41))]) (rest := []) (b := ad j0) C (xc_L_has σ j0 (σ (j3 + 4) (Int32.toNatClampNeg q_41)) _ hj0 e_99) rfl (gw_sub (gw_V xg_L_has ml_L_26 im_L_has se_L_has wi_L)) na_L_has (rm_lt (by decide) (by decide)) ⟨Nat.zero_le _, Nat.zero_le _⟩ j0 (at_L hj0) rfl rfl (Nat.le_of_ble_eq_true rfl) xd_L_gatherImports_99 ?_
          refine aw_if_eq (tgt := 121) C xd_L_gatherImports_102 (by decide) (fun c_102 => ?_) (fun c_102 => ?_)
          · rw [if_pos c_102] at hm
            refine aw_iinc (j := 8) (v := v5 + (1 : Int32)) (L' := [(5, .int (v5 + (1 : Int32))), (8, .int (1 : Int32)), (7, .int (σ (j3 + 4) (Int32.toNatClampNeg q_41))), (6, .int q_41), (0, .ref (ad j0)), (1, .ref (ad j1)), (2, .int v2), (3, .ref (ad j3)), (4, .int v4)]) C xd_L_gatherImports_121 rfl rfl (by decide) rfl ?_
            refine aw_goto (tgt := 25) C xd_L_gatherImports_124 (by decide) ?_
            refine aw_loc (L' := [(0, .ref (ad j0)), (1, .ref (ad j1)), (2, .int v2), (3, .ref (ad j3)), (4, .int v4), (5, .int (v5 + (1 : Int32)))]) C [4, 5, 6, 7, 8, 0] rfl ?_
            exact ih σ j0 j1 v2 j3 v4 (v5 + (1 : Int32)) hj0 hj1 hj3 hm
          · rw [if_neg c_102] at hm
            refine aw_aload_n C 4 xd_L_gatherImports_105 rfl rfl ?_
            refine aw_iload C 1 xd_L_gatherImports_106 rfl ?_
            refine aw_aload_n C 3 xd_L_gatherImports_108 rfl rfl ?_
            refine aw_get C j0 (kd_lt hj0) (ly_L hj0) rfl (fun w h => List.mem_cons_of_mem _ (xi_L w h)) 0 (by decide) rfl (List.mem_cons_of_mem _ fl_L_11) xd_L_gatherImports_109 ?_
            refine aw_iload C 1 xd_L_gatherImports_112 rfl ?_
            obtain ⟨g_114, hm⟩ := aw_grd hm
            refine aw_aald C (j0 + 1) (kd_lt (kf_L_units hj0)) 2 (ly_U6 (kf_L_units hj0)) rfl (aw_in_ok g_114) (if_pos (aw_in_lt g_114)) xd_L_gatherImports_114 ?_
            refine aw_get C (j0 + 1 + 1 + 9 * (Int32.toNatClampNeg (σ (j3 + 4) (Int32.toNatClampNeg q_41)))) (kd_lt (ka_U6 (kf_L_units hj0) (aw_in_lt g_114))) (ly_U (ka_U6 (kf_L_units hj0) (aw_in_lt g_114))) rfl (fun w h => List.mem_cons_of_mem _ (xi_U w h)) 1 (by decide) rfl (List.mem_cons_of_mem _ fl_L_90) xd_L_gatherImports_115 ?_
            obtain ⟨q_118, e_118, hm⟩ := aw_bnd hm
            refine aw_callVv (As := [.int (σ (j3 + 4) (Int32.toNatClampNeg q_41)), .int (σ (j0 + 1 + 1 + 9 * (Int32.toNatClampNeg (σ (j3 + 4) (Int32.toNatClampNeg q_41)))) 1)]) (rest := []) (b := ad j1) C (xc_U_addImport σ j1 (σ (j3 + 4) (Int32.toNatClampNeg q_41)) (σ (j0 + 1 + 1 + 9 * (Int32.toNatClampNeg (σ (j3 + 4) (Int32.toNatClampNeg q_41)))) 1) _ hj1 e_118) rfl (gw_sub (gw_V xg_U_addImport ml_L_104 im_U_addImport se_U_addImport wi_U)) na_U_addImport (rm_lt (by decide) (by decide)) ⟨Nat.zero_le _, Nat.zero_le _⟩ j1 (at_U hj1) rfl rfl (Nat.le_of_ble_eq_true rfl) xd_L_gatherImports_118 ?_
            refine aw_iinc (j := 8) (v := v5 + (1 : Int32)) (L' := [(5, .int (v5 + (1 : Int32))), (8, .int (1 : Int32)), (7, .int (σ (j3 + 4) (Int32.toNatClampNeg q_41))), (6, .int q_41), (0, .ref (ad j0)), (1, .ref (ad j1)), (2, .int v2), (3, .ref (ad j3)), (4, .int v4)]) C xd_L_gatherImports_121 rfl rfl (by decide) rfl ?_
            refine aw_goto (tgt := 25) C xd_L_gatherImports_124 (by decide) ?_
            refine aw_loc (L' := [(0, .ref (ad j0)), (1, .ref (ad j1)), (2, .int v2), (3, .ref (ad j3)), (4, .int v4), (5, .int (v5 + (1 : Int32)))]) C [4, 5, 6, 7, 8, 0] rfl ?_
            exact ih q_118 j0 j1 v2 j3 v4 (v5 + (1 : Int32)) hj0 hj1 hj3 hm
      · rw [if_neg c_63] at hm
        refine aw_aload_n C 5 xd_L_gatherImports_66 rfl rfl ?_
        refine aw_get C j3 (kd_lt hj3) (ly_C hj3) rfl (fun w h => List.mem_cons_of_mem _ (xi_C w h)) 4 (by decide) rfl (List.mem_cons_of_mem _ fl_L_64) xd_L_gatherImports_67 ?_
        refine aw_iload C 1 xd_L_gatherImports_70 rfl ?_
        obtain ⟨g_72, hm⟩ := aw_grd hm
        refine aw_iald C (j3 + 3) (kd_lt (kf_C_ops hj3)) 0 (ly_A42 (kf_C_ops hj3)) rfl (aw_in_ok g_72) xd_L_gatherImports_72 ?_
        refine aw_bipush (v := (11 : Int32)) C xd_L_gatherImports_73 (by decide) ?_
        refine aw_icmp_ne (tgt := 82) C xd_L_gatherImports_75 (by decide) (fun c_75 => ?_) (fun c_75 => ?_)
        · rw [if_neg c_75] at hm
          refine aw_iconst (v := (0 : Int32)) C xd_L_gatherImports_82 (by decide) ?_
          refine aw_istore (L' := [(8, .int (0 : Int32)), (7, .int (σ (j3 + 4) (Int32.toNatClampNeg q_41))), (6, .int q_41), (0, .ref (ad j0)), (1, .ref (ad j1)), (2, .int v2), (3, .ref (ad j3)), (4, .int v4), (5, .int v5)]) C xd_L_gatherImports_83 (by decide) rfl ?_
          refine aw_iload C 0 xd_L_gatherImports_85 rfl ?_
          refine aw_if_eq (tgt := 121) C xd_L_gatherImports_87 (by decide) (fun _ => ?_) (fun c_0 => absurd c_0 (by decide))
          refine aw_iinc (j := 8) (v := v5 + (1 : Int32)) (L' := [(5, .int (v5 + (1 : Int32))), (8, .int (0 : Int32)), (7, .int (σ (j3 + 4) (Int32.toNatClampNeg q_41))), (6, .int q_41), (0, .ref (ad j0)), (1, .ref (ad j1)), (2, .int v2), (3, .ref (ad j3)), (4, .int v4)]) C xd_L_gatherImports_121 rfl rfl (by decide) rfl ?_
          refine aw_goto (tgt := 25) C xd_L_gatherImports_124 (by decide) ?_
          refine aw_loc (L' := [(0, .ref (ad j0)), (1, .ref (ad j1)), (2, .int v2), (3, .ref (ad j3)), (4, .int v4), (5, .int (v5 + (1 : Int32)))]) C [4, 5, 6, 7, 8, 0] rfl ?_
          exact ih σ j0 j1 v2 j3 v4 (v5 + (1 : Int32)) hj0 hj1 hj3 hm
        · rw [if_pos c_75] at hm
          refine aw_iconst (v := (1 : Int32)) C xd_L_gatherImports_78 (by decide) ?_
          refine aw_goto (tgt := 83) C xd_L_gatherImports_79 (by decide) ?_
          refine aw_istore (L' := [(8, .int (1 : Int32)), (7, .int (σ (j3 + 4) (Int32.toNatClampNeg q_41))), (6, .int q_41), (0, .ref (ad j0)), (1, .ref (ad j1)), (2, .int v2), (3, .ref (ad j3)), (4, .int v4), (5, .int v5)]) C xd_L_gatherImports_83 (by decide) rfl ?_
          refine aw_iload C 0 xd_L_gatherImports_85 rfl ?_
          refine aw_if_eq (tgt := 121) C xd_L_gatherImports_87 (by decide) (fun c_0 => absurd c_0 (by decide)) (fun _ => ?_)
          refine aw_iload C 1 xd_L_gatherImports_90 rfl ?_
          refine aw_iload_n C 5 xd_L_gatherImports_92 rfl rfl ?_
          refine aw_icmp_eq (tgt := 121) C xd_L_gatherImports_93 (by decide) (fun c_93 => ?_) (fun c_93 => ?_)
          · rw [if_pos c_93] at hm
            refine aw_iinc (j := 8) (v := v5 + (1 : Int32)) (L' := [(5, .int (v5 + (1 : Int32))), (8, .int (1 : Int32)), (7, .int (σ (j3 + 4) (Int32.toNatClampNeg q_41))), (6, .int q_41), (0, .ref (ad j0)), (1, .ref (ad j1)), (2, .int v2), (3, .ref (ad j3)), (4, .int v4)]) C xd_L_gatherImports_121 rfl rfl (by decide) rfl ?_
            refine aw_goto (tgt := 25) C xd_L_gatherImports_124 (by decide) ?_
            refine aw_loc (L' := [(0, .ref (ad j0)), (1, .ref (ad j1)), (2, .int v2), (3, .ref (ad j3)), (4, .int v4), (5, .int (v5 + (1 : Int32)))]) C [4, 5, 6, 7, 8, 0] rfl ?_
            exact ih σ j0 j1 v2 j3 v4 (v5 + (1 : Int32)) hj0 hj1 hj3 hm
          · rw [if_neg c_93] at hm
            refine aw_aload_n C 3 xd_L_gatherImports_96 rfl rfl ?_
            refine aw_iload C 1 xd_L_gatherImports_97 rfl ?_
            obtain ⟨q_99, e_99, hm⟩ := aw_bnd hm
            refine aw_callVi (As := [.int (σ (j3 + 4) (Int32.toNatClampNeg q_41))]) (rest := []) (b := ad j0) C (xc_L_has σ j0 (σ (j3 + 4) (Int32.toNatClampNeg q_41)) _ hj0 e_99) rfl (gw_sub (gw_V xg_L_has ml_L_26 im_L_has se_L_has wi_L)) na_L_has (rm_lt (by decide) (by decide)) ⟨Nat.zero_le _, Nat.zero_le _⟩ j0 (at_L hj0) rfl rfl (Nat.le_of_ble_eq_true rfl) xd_L_gatherImports_99 ?_
            refine aw_if_eq (tgt := 121) C xd_L_gatherImports_102 (by decide) (fun c_102 => ?_) (fun c_102 => ?_)
            · rw [if_pos c_102] at hm
              refine aw_iinc (j := 8) (v := v5 + (1 : Int32)) (L' := [(5, .int (v5 + (1 : Int32))), (8, .int (1 : Int32)), (7, .int (σ (j3 + 4) (Int32.toNatClampNeg q_41))), (6, .int q_41), (0, .ref (ad j0)), (1, .ref (ad j1)), (2, .int v2), (3, .ref (ad j3)), (4, .int v4)]) C xd_L_gatherImports_121 rfl rfl (by decide) rfl ?_
              refine aw_goto (tgt := 25) C xd_L_gatherImports_124 (by decide) ?_
              refine aw_loc (L' := [(0, .ref (ad j0)), (1, .ref (ad j1)), (2, .int v2), (3, .ref (ad j3)), (4, .int v4), (5, .int (v5 + (1 : Int32)))]) C [4, 5, 6, 7, 8, 0] rfl ?_
              exact ih σ j0 j1 v2 j3 v4 (v5 + (1 : Int32)) hj0 hj1 hj3 hm
            · rw [if_neg c_102] at hm
              refine aw_aload_n C 4 xd_L_gatherImports_105 rfl rfl ?_
              refine aw_iload C 1 xd_L_gatherImports_106 rfl ?_
              refine aw_aload_n C 3 xd_L_gatherImports_108 rfl rfl ?_
              refine aw_get C j0 (kd_lt hj0) (ly_L hj0) rfl (fun w h => List.mem_cons_of_mem _ (xi_L w h)) 0 (by decide) rfl (List.mem_cons_of_mem _ fl_L_11) xd_L_gatherImports_109 ?_
              refine aw_iload C 1 xd_L_gatherImports_112 rfl ?_
              obtain ⟨g_114, hm⟩ := aw_grd hm
              refine aw_aald C (j0 + 1) (kd_lt (kf_L_units hj0)) 2 (ly_U6 (kf_L_units hj0)) rfl (aw_in_ok g_114) (if_pos (aw_in_lt g_114)) xd_L_gatherImports_114 ?_
              refine aw_get C (j0 + 1 + 1 + 9 * (Int32.toNatClampNeg (σ (j3 + 4) (Int32.toNatClampNeg q_41)))) (kd_lt (ka_U6 (kf_L_units hj0) (aw_in_lt g_114))) (ly_U (ka_U6 (kf_L_units hj0) (aw_in_lt g_114))) rfl (fun w h => List.mem_cons_of_mem _ (xi_U w h)) 1 (by decide) rfl (List.mem_cons_of_mem _ fl_L_90) xd_L_gatherImports_115 ?_
              obtain ⟨q_118, e_118, hm⟩ := aw_bnd hm
              refine aw_callVv (As := [.int (σ (j3 + 4) (Int32.toNatClampNeg q_41)), .int (σ (j0 + 1 + 1 + 9 * (Int32.toNatClampNeg (σ (j3 + 4) (Int32.toNatClampNeg q_41)))) 1)]) (rest := []) (b := ad j1) C (xc_U_addImport σ j1 (σ (j3 + 4) (Int32.toNatClampNeg q_41)) (σ (j0 + 1 + 1 + 9 * (Int32.toNatClampNeg (σ (j3 + 4) (Int32.toNatClampNeg q_41)))) 1) _ hj1 e_118) rfl (gw_sub (gw_V xg_U_addImport ml_L_104 im_U_addImport se_U_addImport wi_U)) na_U_addImport (rm_lt (by decide) (by decide)) ⟨Nat.zero_le _, Nat.zero_le _⟩ j1 (at_U hj1) rfl rfl (Nat.le_of_ble_eq_true rfl) xd_L_gatherImports_118 ?_
              refine aw_iinc (j := 8) (v := v5 + (1 : Int32)) (L' := [(5, .int (v5 + (1 : Int32))), (8, .int (1 : Int32)), (7, .int (σ (j3 + 4) (Int32.toNatClampNeg q_41))), (6, .int q_41), (0, .ref (ad j0)), (1, .ref (ad j1)), (2, .int v2), (3, .ref (ad j3)), (4, .int v4)]) C xd_L_gatherImports_121 rfl rfl (by decide) rfl ?_
              refine aw_goto (tgt := 25) C xd_L_gatherImports_124 (by decide) ?_
              refine aw_loc (L' := [(0, .ref (ad j0)), (1, .ref (ad j1)), (2, .int v2), (3, .ref (ad j3)), (4, .int v4), (5, .int (v5 + (1 : Int32)))]) C [4, 5, 6, 7, 8, 0] rfl ?_
              exact ih q_118 j0 j1 v2 j3 v4 (v5 + (1 : Int32)) hj0 hj1 hj3 hm
set_option maxHeartbeats 4000000 in
set_option maxRecDepth 100000 in
theorem xl_L_gatherImports_13  {κ : aw_K} (q : aw_m) (C : aw_X l D (ty_z ids) (zs_T ps) (rm_D (2)) xb_L_gatherImports 9 "ModuleShelf$Library" (xw_L_gatherImports :: gw_l) none none (cw_w ad ids q) κ) : ∀ (n : Nat) (σ : aw_m) (j0 : Nat) (j1 : Nat) (v2 : Int32) (j3 : Nat) (v4 : Int32) (hj0 : kd_k j0 = 4) (hj1 : kd_k j1 = 6) (hj3 : kd_k j3 = 1), xq_L_gatherImports_13 n σ j0 j1 v2 j3 v4 = some q → aw_J κ 0 0 (cw_w ad ids σ) [(0, .ref (ad j0)), (1, .ref (ad j1)), (2, .int v2), (3, .ref (ad j3)), (4, .int v4)] 13 [] := by
  intro n
  induction n with
  | zero => intro σ j0 j1 v2 j3 v4 hj0 hj1 hj3 hm; cases hm
  | succ n ih =>
    intro σ j0 j1 v2 j3 v4 hj0 hj1 hj3 hm
    rw [xq_L_gatherImports_13] at hm
    refine aw_iload C 4 xd_L_gatherImports_13 rfl ?_
    refine aw_aload_n C 3 xd_L_gatherImports_15 rfl rfl ?_
    refine aw_get C j3 (kd_lt hj3) (ly_C hj3) rfl (fun w h => List.mem_cons_of_mem _ (xi_C w h)) 1 (by decide) rfl (List.mem_cons_of_mem _ fl_L_29) xd_L_gatherImports_16 ?_
    refine aw_icmp_ge (tgt := 133) C xd_L_gatherImports_19 (by decide) (fun c_19 => ?_) (fun c_19 => ?_)
    · rw [if_pos c_19] at hm
      cases hm
      exact aw_vret C xd_L_gatherImports_133
    · rw [if_neg c_19] at hm
      refine aw_iconst (v := (0 : Int32)) C xd_L_gatherImports_22 (by decide) ?_
      refine aw_istore (L' := [(5, .int (0 : Int32)), (0, .ref (ad j0)), (1, .ref (ad j1)), (2, .int v2), (3, .ref (ad j3)), (4, .int v4)]) C xd_L_gatherImports_23 (by decide) rfl ?_
      refine aw_loc (L' := [(0, .ref (ad j0)), (1, .ref (ad j1)), (2, .int v2), (3, .ref (ad j3)), (4, .int v4), (5, .int (0 : Int32))]) C [1, 2, 3, 4, 5, 0] rfl ?_
      exact xl_L_gatherImports_25 (xq_L_gatherImports_13 n) _ C ih 64 σ j0 j1 v2 j3 v4 (0 : Int32) hj0 hj1 hj3 hm
set_option maxHeartbeats 4000000 in
set_option maxRecDepth 100000 in
theorem xc_L_gatherImports (σ : aw_m) (k0 : Nat) (k1 : Nat) (a2 : Int32) (q : aw_m) (hk0 : kd_k k0 = 4) (hk1 : kd_k k1 = 6) (hm : xm_L_gatherImports σ k0 k1 a2 = some q) : aw_M l D (ty_z ids) (zs_T ps) xy_L_gatherImports (xw_L_gatherImports :: gw_l) (rm_D (2)) [.ref (ad k0), .ref (ad k1), .int a2] (cw_w ad ids σ) none (cw_w ad ids q) := by
  refine aw_intro (cc := xb_L_gatherImports) (n := 9) (ret := none) "ModuleShelf$Library" rfl (by decide) rfl (Nat.le_of_ble_eq_true rfl) ?_
  intro κ C
  unfold xm_L_gatherImports at hm
  refine aw_aload_n C 1 xd_L_gatherImports_0 rfl rfl ?_
  refine aw_get C k1 (kd_lt hk1) (ly_U hk1) rfl (fun w h => List.mem_cons_of_mem _ (xi_U w h)) 5 (by decide) rfl (List.mem_cons_of_mem _ fl_L_73) xd_L_gatherImports_1 ?_
  refine aw_astore_n (L' := [(3, .ref (ad (k1 + 3))), (0, .ref (ad k0)), (1, .ref (ad k1)), (2, .int a2)]) C xd_L_gatherImports_4 rfl (by decide) rfl ?_
  refine aw_aload_n C 2 xd_L_gatherImports_5 rfl rfl ?_
  refine aw_iconst (v := (0 : Int32)) C xd_L_gatherImports_6 (by decide) ?_
  obtain ⟨s_7, h_7, hm⟩ := aw_let hm
  refine aw_put (σ1 := s_7) (f := upd (σ k1) 2 (0 : Int32)) C k1 (kd_lt hk1) (ly_U hk1) rfl (fun w h => List.mem_cons_of_mem _ (xi_U w h)) xk_U xo_U xn_U 2 (by decide) (List.mem_cons_of_mem _ fl_L_101) rfl (ty := .int) (by decide +kernel) rfl rfl (Nat.le_of_ble_eq_true rfl) (ly_U hk1) h_7 xd_L_gatherImports_7 ?_
  refine aw_iconst (v := (0 : Int32)) C xd_L_gatherImports_10 (by decide) ?_
  refine aw_istore (L' := [(4, .int (0 : Int32)), (3, .ref (ad (k1 + 3))), (0, .ref (ad k0)), (1, .ref (ad k1)), (2, .int a2)]) C xd_L_gatherImports_11 (by decide) rfl ?_
  refine aw_loc (L' := [(0, .ref (ad k0)), (1, .ref (ad k1)), (2, .int a2), (3, .ref (ad (k1 + 3))), (4, .int (0 : Int32))]) C [2, 3, 4, 1, 0] rfl ?_
  exact xl_L_gatherImports_13 _ C 64 s_7 k0 k1 a2 (k1 + 3) (0 : Int32) hk0 hk1 (kf_U_code hk1) hm
def xm_L_keep (σ : aw_m) (k0 : Nat) (k1 : Nat) (a2 : Int32) : Option (Int32 × aw_m) := if aw_in a2 6 = true then (if σ (k0 + 1 + 1 + 9 * (Int32.toNatClampNeg a2)) 0 = 0 then aw_l (aw_p σ k0 1 ((σ k0 1) + (1 : Int32))) fun s_32 => aw_l (aw_p s_32 (k0 + 1 + 1 + 9 * (Int32.toNatClampNeg a2)) 1 (s_32 k0 1)) fun s_40 => aw_l (aw_p s_40 (k0 + 1 + 1 + 9 * (Int32.toNatClampNeg a2)) 0 (1 : Int32)) fun s_45 => (xm_C_copyFrom s_45 ((k0 + 1 + 1 + 9 * (Int32.toNatClampNeg a2)) + 3) k1).bind fun q_53 => (xm_L_gatherImports q_53 k0 (k0 + 1 + 1 + 9 * (Int32.toNatClampNeg a2)) a2).bind fun q_59 => some (q_59 (k0 + 1 + 1 + 9 * (Int32.toNatClampNeg a2)) 1, q_59) else (xm_C_hasInterfaceOf σ ((k0 + 1 + 1 + 9 * (Int32.toNatClampNeg a2)) + 3) k1).bind fun q_19 => (if q_19 = 0 then aw_l (aw_p σ k0 1 ((σ k0 1) + (1 : Int32))) fun s_32 => aw_l (aw_p s_32 (k0 + 1 + 1 + 9 * (Int32.toNatClampNeg a2)) 1 (s_32 k0 1)) fun s_40 => aw_l (aw_p s_40 (k0 + 1 + 1 + 9 * (Int32.toNatClampNeg a2)) 0 (1 : Int32)) fun s_45 => (xm_C_copyFrom s_45 ((k0 + 1 + 1 + 9 * (Int32.toNatClampNeg a2)) + 3) k1).bind fun q_53 => (xm_L_gatherImports q_53 k0 (k0 + 1 + 1 + 9 * (Int32.toNatClampNeg a2)) a2).bind fun q_59 => some (q_59 (k0 + 1 + 1 + 9 * (Int32.toNatClampNeg a2)) 1, q_59) else aw_l (aw_p σ (k0 + 1 + 1 + 9 * (Int32.toNatClampNeg a2)) 0 (1 : Int32)) fun s_45 => (xm_C_copyFrom s_45 ((k0 + 1 + 1 + 9 * (Int32.toNatClampNeg a2)) + 3) k1).bind fun q_53 => (xm_L_gatherImports q_53 k0 (k0 + 1 + 1 + 9 * (Int32.toNatClampNeg a2)) a2).bind fun q_59 => some (q_59 (k0 + 1 + 1 + 9 * (Int32.toNatClampNeg a2)) 1, q_59))) else none
set_option maxHeartbeats 4000000 in
set_option maxRecDepth 100000 in
theorem xc_L_keep (σ : aw_m) (k0 : Nat) (k1 : Nat) (a2 : Int32) (q : Int32 × aw_m) (hk0 : kd_k k0 = 4) (hk1 : kd_k k1 = 1) (hm : xm_L_keep σ k0 k1 a2 = some q) : aw_M l D (ty_z ids) (zs_T ps) xy_L_keep (xw_L_keep :: gw_l) (rm_D (3)) [.ref (ad k0), .ref (ad k1), .int a2] (cw_w ad ids σ) (some (.int q.1)) (cw_w ad ids q.2) := by
  refine aw_intro (cc := xb_L_keep) (n := 4) (ret := (some .int)) "ModuleShelf$Library" rfl (by decide) rfl (Nat.le_of_ble_eq_true rfl) ?_
  intro κ C
  unfold xm_L_keep at hm
  refine aw_aload_n C 0 xd_L_keep_0 rfl rfl ?_
  refine aw_get C k0 (kd_lt hk0) (ly_L hk0) rfl (fun w h => List.mem_cons_of_mem _ (xi_L w h)) 0 (by decide) rfl (List.mem_cons_of_mem _ fl_L_11) xd_L_keep_1 ?_
  refine aw_iload_n C 2 xd_L_keep_4 rfl rfl ?_
  obtain ⟨g_5, hm⟩ := aw_grd hm
  refine aw_aald C (k0 + 1) (kd_lt (kf_L_units hk0)) 2 (ly_U6 (kf_L_units hk0)) rfl (aw_in_ok g_5) (if_pos (aw_in_lt g_5)) xd_L_keep_5 ?_
  refine aw_astore_n (L' := [(3, .ref (ad (k0 + 1 + 1 + 9 * (Int32.toNatClampNeg a2)))), (0, .ref (ad k0)), (1, .ref (ad k1)), (2, .int a2)]) C xd_L_keep_6 rfl (by decide) rfl ?_
  refine aw_aload_n C 0 xd_L_keep_7 rfl rfl ?_
  refine aw_get C (k0 + 1 + 1 + 9 * (Int32.toNatClampNeg a2)) (kd_lt (ka_U6 (kf_L_units hk0) (aw_in_lt g_5))) (ly_U (ka_U6 (kf_L_units hk0) (aw_in_lt g_5))) rfl (fun w h => List.mem_cons_of_mem _ (xi_U w h)) 0 (by decide) rfl (List.mem_cons_of_mem _ fl_L_22) xd_L_keep_8 ?_
  refine aw_if_eq (tgt := 25) C xd_L_keep_11 (by decide) (fun c_11 => ?_) (fun c_11 => ?_)
  · rw [if_pos c_11] at hm
    refine aw_aload_n C 1 xd_L_keep_25 rfl rfl ?_
    refine aw_dup C xd_L_keep_26 rfl ?_
    refine aw_get C k0 (kd_lt hk0) (ly_L hk0) rfl (fun w h => List.mem_cons_of_mem _ (xi_L w h)) 1 (by decide) rfl (List.mem_cons_of_mem _ fl_L_87) xd_L_keep_27 ?_
    refine aw_iconst (v := (1 : Int32)) C xd_L_keep_30 (by decide) ?_
    refine aw_iadd C xd_L_keep_31 ?_
    obtain ⟨s_32, h_32, hm⟩ := aw_let hm
    refine aw_put (σ1 := s_32) (f := upd (σ k0) 1 ((σ k0 1) + (1 : Int32))) C k0 (kd_lt hk0) (ly_L hk0) rfl (fun w h => List.mem_cons_of_mem _ (xi_L w h)) xk_L xo_L xn_L 1 (by decide) (List.mem_cons_of_mem _ fl_L_87) rfl (ty := .int) (by decide +kernel) rfl rfl (Nat.le_of_ble_eq_true rfl) (ly_L hk0) h_32 xd_L_keep_32 ?_
    refine aw_aload_n C 0 xd_L_keep_35 rfl rfl ?_
    refine aw_aload_n C 1 xd_L_keep_36 rfl rfl ?_
    refine aw_get C k0 (kd_lt hk0) (ly_L hk0) rfl (fun w h => List.mem_cons_of_mem _ (xi_L w h)) 1 (by decide) rfl (List.mem_cons_of_mem _ fl_L_87) xd_L_keep_37 ?_
    obtain ⟨s_40, h_40, hm⟩ := aw_let hm
    refine aw_put (σ1 := s_40) (f := upd (s_32 (k0 + 1 + 1 + 9 * (Int32.toNatClampNeg a2))) 1 (s_32 k0 1)) C (k0 + 1 + 1 + 9 * (Int32.toNatClampNeg a2)) (kd_lt (ka_U6 (kf_L_units hk0) (aw_in_lt g_5))) (ly_U (ka_U6 (kf_L_units hk0) (aw_in_lt g_5))) rfl (fun w h => List.mem_cons_of_mem _ (xi_U w h)) xk_U xo_U xn_U 1 (by decide) (List.mem_cons_of_mem _ fl_L_90) rfl (ty := .int) (by decide +kernel) rfl rfl (Nat.le_of_ble_eq_true rfl) (ly_U (ka_U6 (kf_L_units hk0) (aw_in_lt g_5))) h_40 xd_L_keep_40 ?_
    refine aw_aload_n C 0 xd_L_keep_43 rfl rfl ?_
    refine aw_iconst (v := (1 : Int32)) C xd_L_keep_44 (by decide) ?_
    obtain ⟨s_45, h_45, hm⟩ := aw_let hm
    refine aw_put (σ1 := s_45) (f := upd (s_40 (k0 + 1 + 1 + 9 * (Int32.toNatClampNeg a2))) 0 (1 : Int32)) C (k0 + 1 + 1 + 9 * (Int32.toNatClampNeg a2)) (kd_lt (ka_U6 (kf_L_units hk0) (aw_in_lt g_5))) (ly_U (ka_U6 (kf_L_units hk0) (aw_in_lt g_5))) rfl (fun w h => List.mem_cons_of_mem _ (xi_U w h)) xk_U xo_U xn_U 0 (by decide) (List.mem_cons_of_mem _ fl_L_22) rfl (ty := .boolean) (by decide +kernel) rfl rfl (Nat.le_of_ble_eq_true rfl) (ly_U (ka_U6 (kf_L_units hk0) (aw_in_lt g_5))) h_45 xd_L_keep_45 ?_
    refine aw_aload_n C 0 xd_L_keep_48 rfl rfl ?_
    refine aw_get C (k0 + 1 + 1 + 9 * (Int32.toNatClampNeg a2)) (kd_lt (ka_U6 (kf_L_units hk0) (aw_in_lt g_5))) (ly_U (ka_U6 (kf_L_units hk0) (aw_in_lt g_5))) rfl (fun w h => List.mem_cons_of_mem _ (xi_U w h)) 5 (by decide) rfl (List.mem_cons_of_mem _ fl_L_73) xd_L_keep_49 ?_
    refine aw_aload_n C 2 xd_L_keep_52 rfl rfl ?_
    obtain ⟨q_53, e_53, hm⟩ := aw_bnd hm
    refine aw_callVv (As := [.ref (ad k1)]) (rest := []) (b := ad ((k0 + 1 + 1 + 9 * (Int32.toNatClampNeg a2)) + 3)) C (xc_C_copyFrom s_45 ((k0 + 1 + 1 + 9 * (Int32.toNatClampNeg a2)) + 3) k1 _ (kf_U_code (ka_U6 (kf_L_units hk0) (aw_in_lt g_5))) hk1 e_53) rfl (gw_sub (gw_V xg_C_copyFrom ml_L_93 im_C_copyFrom se_C_copyFrom wi_C)) na_C_copyFrom (rm_lt (by decide) (by decide)) ⟨Nat.zero_le _, Nat.zero_le _⟩ ((k0 + 1 + 1 + 9 * (Int32.toNatClampNeg a2)) + 3) (at_C (kf_U_code (ka_U6 (kf_L_units hk0) (aw_in_lt g_5)))) rfl rfl (Nat.le_of_ble_eq_true rfl) xd_L_keep_53 ?_
    refine aw_aload_n C 1 xd_L_keep_56 rfl rfl ?_
    refine aw_aload_n C 0 xd_L_keep_57 rfl rfl ?_
    refine aw_iload_n C 3 xd_L_keep_58 rfl rfl ?_
    obtain ⟨q_59, e_59, hm⟩ := aw_bnd hm
    refine aw_callVv (As := [.ref (ad (k0 + 1 + 1 + 9 * (Int32.toNatClampNeg a2))), .int a2]) (rest := []) (b := ad k0) C (xc_L_gatherImports q_53 k0 (k0 + 1 + 1 + 9 * (Int32.toNatClampNeg a2)) a2 _ hk0 (ka_U6 (kf_L_units hk0) (aw_in_lt g_5)) e_59) rfl (gw_sub (gw_V xg_L_gatherImports ml_L_97 im_L_gatherImports se_L_gatherImports wi_L)) na_L_gatherImports (rm_lt (by decide) (by decide)) ⟨Nat.zero_le _, Nat.zero_le _⟩ k0 (at_L hk0) rfl rfl (Nat.le_of_ble_eq_true rfl) xd_L_keep_59 ?_
    refine aw_aload_n C 0 xd_L_keep_62 rfl rfl ?_
    refine aw_get C (k0 + 1 + 1 + 9 * (Int32.toNatClampNeg a2)) (kd_lt (ka_U6 (kf_L_units hk0) (aw_in_lt g_5))) (ly_U (ka_U6 (kf_L_units hk0) (aw_in_lt g_5))) rfl (fun w h => List.mem_cons_of_mem _ (xi_U w h)) 1 (by decide) rfl (List.mem_cons_of_mem _ fl_L_90) xd_L_keep_63 ?_
    cases hm
    exact aw_iret C xd_L_keep_66
  · rw [if_neg c_11] at hm
    refine aw_aload_n C 0 xd_L_keep_14 rfl rfl ?_
    refine aw_get C (k0 + 1 + 1 + 9 * (Int32.toNatClampNeg a2)) (kd_lt (ka_U6 (kf_L_units hk0) (aw_in_lt g_5))) (ly_U (ka_U6 (kf_L_units hk0) (aw_in_lt g_5))) rfl (fun w h => List.mem_cons_of_mem _ (xi_U w h)) 5 (by decide) rfl (List.mem_cons_of_mem _ fl_L_73) xd_L_keep_15 ?_
    refine aw_aload_n C 2 xd_L_keep_18 rfl rfl ?_
    obtain ⟨q_19, e_19, hm⟩ := aw_bnd hm
    refine aw_callVi (As := [.ref (ad k1)]) (rest := []) (b := ad ((k0 + 1 + 1 + 9 * (Int32.toNatClampNeg a2)) + 3)) C (xc_C_hasInterfaceOf σ ((k0 + 1 + 1 + 9 * (Int32.toNatClampNeg a2)) + 3) k1 _ (kf_U_code (ka_U6 (kf_L_units hk0) (aw_in_lt g_5))) hk1 e_19) rfl (gw_sub (gw_V xg_C_hasInterfaceOf ml_L_83 im_C_hasInterfaceOf se_C_hasInterfaceOf wi_C)) na_C_hasInterfaceOf (rm_lt (by decide) (by decide)) ⟨Nat.zero_le _, Nat.zero_le _⟩ ((k0 + 1 + 1 + 9 * (Int32.toNatClampNeg a2)) + 3) (at_C (kf_U_code (ka_U6 (kf_L_units hk0) (aw_in_lt g_5)))) rfl rfl (Nat.le_of_ble_eq_true rfl) xd_L_keep_19 ?_
    refine aw_if_ne (tgt := 43) C xd_L_keep_22 (by decide) (fun c_22 => ?_) (fun c_22 => ?_)
    · rw [if_neg c_22] at hm
      refine aw_aload_n C 0 xd_L_keep_43 rfl rfl ?_
      refine aw_iconst (v := (1 : Int32)) C xd_L_keep_44 (by decide) ?_
      obtain ⟨s_45, h_45, hm⟩ := aw_let hm
      refine aw_put (σ1 := s_45) (f := upd (σ (k0 + 1 + 1 + 9 * (Int32.toNatClampNeg a2))) 0 (1 : Int32)) C (k0 + 1 + 1 + 9 * (Int32.toNatClampNeg a2)) (kd_lt (ka_U6 (kf_L_units hk0) (aw_in_lt g_5))) (ly_U (ka_U6 (kf_L_units hk0) (aw_in_lt g_5))) rfl (fun w h => List.mem_cons_of_mem _ (xi_U w h)) xk_U xo_U xn_U 0 (by decide) (List.mem_cons_of_mem _ fl_L_22) rfl (ty := .boolean) (by decide +kernel) rfl rfl (Nat.le_of_ble_eq_true rfl) (ly_U (ka_U6 (kf_L_units hk0) (aw_in_lt g_5))) h_45 xd_L_keep_45 ?_
      refine aw_aload_n C 0 xd_L_keep_48 rfl rfl ?_
      refine aw_get C (k0 + 1 + 1 + 9 * (Int32.toNatClampNeg a2)) (kd_lt (ka_U6 (kf_L_units hk0) (aw_in_lt g_5))) (ly_U (ka_U6 (kf_L_units hk0) (aw_in_lt g_5))) rfl (fun w h => List.mem_cons_of_mem _ (xi_U w h)) 5 (by decide) rfl (List.mem_cons_of_mem _ fl_L_73) xd_L_keep_49 ?_
      refine aw_aload_n C 2 xd_L_keep_52 rfl rfl ?_
      obtain ⟨q_53, e_53, hm⟩ := aw_bnd hm
      refine aw_callVv (As := [.ref (ad k1)]) (rest := []) (b := ad ((k0 + 1 + 1 + 9 * (Int32.toNatClampNeg a2)) + 3)) C (xc_C_copyFrom s_45 ((k0 + 1 + 1 + 9 * (Int32.toNatClampNeg a2)) + 3) k1 _ (kf_U_code (ka_U6 (kf_L_units hk0) (aw_in_lt g_5))) hk1 e_53) rfl (gw_sub (gw_V xg_C_copyFrom ml_L_93 im_C_copyFrom se_C_copyFrom wi_C)) na_C_copyFrom (rm_lt (by decide) (by decide)) ⟨Nat.zero_le _, Nat.zero_le _⟩ ((k0 + 1 + 1 + 9 * (Int32.toNatClampNeg a2)) + 3) (at_C (kf_U_code (ka_U6 (kf_L_units hk0) (aw_in_lt g_5)))) rfl rfl (Nat.le_of_ble_eq_true rfl) xd_L_keep_53 ?_
      refine aw_aload_n C 1 xd_L_keep_56 rfl rfl ?_
      refine aw_aload_n C 0 xd_L_keep_57 rfl rfl ?_
      refine aw_iload_n C 3 xd_L_keep_58 rfl rfl ?_
      obtain ⟨q_59, e_59, hm⟩ := aw_bnd hm
      refine aw_callVv (As := [.ref (ad (k0 + 1 + 1 + 9 * (Int32.toNatClampNeg a2))), .int a2]) (rest := []) (b := ad k0) C (xc_L_gatherImports q_53 k0 (k0 + 1 + 1 + 9 * (Int32.toNatClampNeg a2)) a2 _ hk0 (ka_U6 (kf_L_units hk0) (aw_in_lt g_5)) e_59) rfl (gw_sub (gw_V xg_L_gatherImports ml_L_97 im_L_gatherImports se_L_gatherImports wi_L)) na_L_gatherImports (rm_lt (by decide) (by decide)) ⟨Nat.zero_le _, Nat.zero_le _⟩ k0 (at_L hk0) rfl rfl (Nat.le_of_ble_eq_true rfl) xd_L_keep_59 ?_
      refine aw_aload_n C 0 xd_L_keep_62 rfl rfl ?_
      refine aw_get C (k0 + 1 + 1 + 9 * (Int32.toNatClampNeg a2)) (kd_lt (ka_U6 (kf_L_units hk0) (aw_in_lt g_5))) (ly_U (ka_U6 (kf_L_units hk0) (aw_in_lt g_5))) rfl (fun w h => List.mem_cons_of_mem _ (xi_U w h)) 1 (by decide) rfl (List.mem_cons_of_mem _ fl_L_90) xd_L_keep_63 ?_
      cases hm
      exact aw_iret C xd_L_keep_66
    · rw [if_pos c_22] at hm
      refine aw_aload_n C 1 xd_L_keep_25 rfl rfl ?_
      refine aw_dup C xd_L_keep_26 rfl ?_
      refine aw_get C k0 (kd_lt hk0) (ly_L hk0) rfl (fun w h => List.mem_cons_of_mem _ (xi_L w h)) 1 (by decide) rfl (List.mem_cons_of_mem _ fl_L_87) xd_L_keep_27 ?_
      refine aw_iconst (v := (1 : Int32)) C xd_L_keep_30 (by decide) ?_
      refine aw_iadd C xd_L_keep_31 ?_
      obtain ⟨s_32, h_32, hm⟩ := aw_let hm
      refine aw_put (σ1 := s_32) (f := upd (σ k0) 1 ((σ k0 1) + (1 : Int32))) C k0 (kd_lt hk0) (ly_L hk0) rfl (fun w h => List.mem_cons_of_mem _ (xi_L w h)) xk_L xo_L xn_L 1 (by decide) (List.mem_cons_of_mem _ fl_L_87) rfl (ty := .int) (by decide +kernel) rfl rfl (Nat.le_of_ble_eq_true rfl) (ly_L hk0) h_32 xd_L_keep_32 ?_
      refine aw_aload_n C 0 xd_L_keep_35 rfl rfl ?_
      refine aw_aload_n C 1 xd_L_keep_36 rfl rfl ?_
      refine aw_get C k0 (kd_lt hk0) (ly_L hk0) rfl (fun w h => List.mem_cons_of_mem _ (xi_L w h)) 1 (by decide) rfl (List.mem_cons_of_mem _ fl_L_87) xd_L_keep_37 ?_
      obtain ⟨s_40, h_40, hm⟩ := aw_let hm
      refine aw_put (σ1 := s_40) (f := upd (s_32 (k0 + 1 + 1 + 9 * (Int32.toNatClampNeg a2))) 1 (s_32 k0 1)) C (k0 + 1 + 1 + 9 * (Int32.toNatClampNeg a2)) (kd_lt (ka_U6 (kf_L_units hk0) (aw_in_lt g_5))) (ly_U (ka_U6 (kf_L_units hk0) (aw_in_lt g_5))) rfl (fun w h => List.mem_cons_of_mem _ (xi_U w h)) xk_U xo_U xn_U 1 (by decide) (List.mem_cons_of_mem _ fl_L_90) rfl (ty := .int) (by decide +kernel) rfl rfl (Nat.le_of_ble_eq_true rfl) (ly_U (ka_U6 (kf_L_units hk0) (aw_in_lt g_5))) h_40 xd_L_keep_40 ?_
      refine aw_aload_n C 0 xd_L_keep_43 rfl rfl ?_
      refine aw_iconst (v := (1 : Int32)) C xd_L_keep_44 (by decide) ?_
      obtain ⟨s_45, h_45, hm⟩ := aw_let hm
      refine aw_put (σ1 := s_45) (f := upd (s_40 (k0 + 1 + 1 + 9 * (Int32.toNatClampNeg a2))) 0 (1 : Int32)) C (k0 + 1 + 1 + 9 * (Int32.toNatClampNeg a2)) (kd_lt (ka_U6 (kf_L_units hk0) (aw_in_lt g_5))) (ly_U (ka_U6 (kf_L_units hk0) (aw_in_lt g_5))) rfl (fun w h => List.mem_cons_of_mem _ (xi_U w h)) xk_U xo_U xn_U 0 (by decide) (List.mem_cons_of_mem _ fl_L_22) rfl (ty := .boolean) (by decide +kernel) rfl rfl (Nat.le_of_ble_eq_true rfl) (ly_U (ka_U6 (kf_L_units hk0) (aw_in_lt g_5))) h_45 xd_L_keep_45 ?_
      refine aw_aload_n C 0 xd_L_keep_48 rfl rfl ?_
      refine aw_get C (k0 + 1 + 1 + 9 * (Int32.toNatClampNeg a2)) (kd_lt (ka_U6 (kf_L_units hk0) (aw_in_lt g_5))) (ly_U (ka_U6 (kf_L_units hk0) (aw_in_lt g_5))) rfl (fun w h => List.mem_cons_of_mem _ (xi_U w h)) 5 (by decide) rfl (List.mem_cons_of_mem _ fl_L_73) xd_L_keep_49 ?_
      refine aw_aload_n C 2 xd_L_keep_52 rfl rfl ?_
      obtain ⟨q_53, e_53, hm⟩ := aw_bnd hm
      refine aw_callVv (As := [.ref (ad k1)]) (rest := []) (b := ad ((k0 + 1 + 1 + 9 * (Int32.toNatClampNeg a2)) + 3)) C (xc_C_copyFrom s_45 ((k0 + 1 + 1 + 9 * (Int32.toNatClampNeg a2)) + 3) k1 _ (kf_U_code (ka_U6 (kf_L_units hk0) (aw_in_lt g_5))) hk1 e_53) rfl (gw_sub (gw_V xg_C_copyFrom ml_L_93 im_C_copyFrom se_C_copyFrom wi_C)) na_C_copyFrom (rm_lt (by decide) (by decide)) ⟨Nat.zero_le _, Nat.zero_le _⟩ ((k0 + 1 + 1 + 9 * (Int32.toNatClampNeg a2)) + 3) (at_C (kf_U_code (ka_U6 (kf_L_units hk0) (aw_in_lt g_5)))) rfl rfl (Nat.le_of_ble_eq_true rfl) xd_L_keep_53 ?_
      refine aw_aload_n C 1 xd_L_keep_56 rfl rfl ?_
      refine aw_aload_n C 0 xd_L_keep_57 rfl rfl ?_
      refine aw_iload_n C 3 xd_L_keep_58 rfl rfl ?_
      obtain ⟨q_59, e_59, hm⟩ := aw_bnd hm
      refine aw_callVv (As := [.ref (ad (k0 + 1 + 1 + 9 * (Int32.toNatClampNeg a2))), .int a2]) (rest := []) (b := ad k0) C (xc_L_gatherImports q_53 k0 (k0 + 1 + 1 + 9 * (Int32.toNatClampNeg a2)) a2 _ hk0 (ka_U6 (kf_L_units hk0) (aw_in_lt g_5)) e_59) rfl (gw_sub (gw_V xg_L_gatherImports ml_L_97 im_L_gatherImports se_L_gatherImports wi_L)) na_L_gatherImports (rm_lt (by decide) (by decide)) ⟨Nat.zero_le _, Nat.zero_le _⟩ k0 (at_L hk0) rfl rfl (Nat.le_of_ble_eq_true rfl) xd_L_keep_59 ?_
      refine aw_aload_n C 0 xd_L_keep_62 rfl rfl ?_
      refine aw_get C (k0 + 1 + 1 + 9 * (Int32.toNatClampNeg a2)) (kd_lt (ka_U6 (kf_L_units hk0) (aw_in_lt g_5))) (ly_U (ka_U6 (kf_L_units hk0) (aw_in_lt g_5))) rfl (fun w h => List.mem_cons_of_mem _ (xi_U w h)) 1 (by decide) rfl (List.mem_cons_of_mem _ fl_L_90) xd_L_keep_63 ?_
      cases hm
      exact aw_iret C xd_L_keep_66
end
