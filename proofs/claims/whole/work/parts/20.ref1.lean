theorem xd_R_in_0 : decode xb_R_in 0 = .ok (.iload_n 0, 1) := by decide +kernel
theorem xd_R_in_1 : decode xb_R_in 1 = .ok (.iload_n 1, 1) := by decide +kernel
theorem xd_R_in_2 : decode xb_R_in 2 = .ok (.if_icmp .lt 12, 3) := by decide +kernel
theorem xd_R_in_5 : decode xb_R_in 5 = .ok (.iload_n 0, 1) := by decide +kernel
theorem xd_R_in_6 : decode xb_R_in 6 = .ok (.iload_n 2, 1) := by decide +kernel
theorem xd_R_in_7 : decode xb_R_in 7 = .ok (.if_icmp .gt 7, 3) := by decide +kernel
theorem xd_R_in_10 : decode xb_R_in 10 = .ok (.iconst 1, 1) := by decide +kernel
theorem xd_R_in_11 : decode xb_R_in 11 = .ok (.goto 4, 3) := by decide +kernel
theorem xd_R_in_14 : decode xb_R_in 14 = .ok (.iconst 0, 1) := by decide +kernel
theorem xd_R_in_15 : decode xb_R_in 15 = .ok (.ireturn, 1) := by decide +kernel
theorem xd_R_begin_0 : decode xb_R_begin 0 = .ok (.iload_n 1, 1) := by decide +kernel
theorem xd_R_begin_1 : decode xb_R_begin 1 = .ok (.iconst 0, 1) := by decide +kernel
theorem xd_R_begin_2 : decode xb_R_begin 2 = .ok (.iconst 3, 1) := by decide +kernel
theorem xd_R_begin_3 : decode xb_R_begin 3 = .ok (.invokestatic 83, 3) := by decide +kernel
theorem xd_R_begin_6 : decode xb_R_begin 6 = .ok (.ifCond .ne 5, 3) := by decide +kernel
theorem xd_R_begin_9 : decode xb_R_begin 9 = .ok (.iconst (-1), 1) := by decide +kernel
theorem xd_R_begin_10 : decode xb_R_begin 10 = .ok (.ireturn, 1) := by decide +kernel
theorem xd_R_begin_11 : decode xb_R_begin 11 = .ok (.aload_n 0, 1) := by decide +kernel
theorem xd_R_begin_12 : decode xb_R_begin 12 = .ok (.getfield 13, 3) := by decide +kernel
theorem xd_R_begin_15 : decode xb_R_begin 15 = .ok (.bipush 12, 2) := by decide +kernel
theorem xd_R_begin_17 : decode xb_R_begin 17 = .ok (.iload_n 1, 1) := by decide +kernel
theorem xd_R_begin_18 : decode xb_R_begin 18 = .ok (.iastore, 1) := by decide +kernel
theorem xd_R_begin_19 : decode xb_R_begin 19 = .ok (.aload_n 0, 1) := by decide +kernel
theorem xd_R_begin_20 : decode xb_R_begin 20 = .ok (.getfield 16, 3) := by decide +kernel
theorem xd_R_begin_23 : decode xb_R_begin 23 = .ok (.bipush 12, 2) := by decide +kernel
theorem xd_R_begin_25 : decode xb_R_begin 25 = .ok (.iconst 0, 1) := by decide +kernel
theorem xd_R_begin_26 : decode xb_R_begin 26 = .ok (.iastore, 1) := by decide +kernel
theorem xd_R_begin_27 : decode xb_R_begin 27 = .ok (.iconst 0, 1) := by decide +kernel
theorem xd_R_begin_28 : decode xb_R_begin 28 = .ok (.ireturn, 1) := by decide +kernel
theorem xd_R_procedure_0 : decode xb_R_procedure 0 = .ok (.iload_n 1, 1) := by decide +kernel
theorem xd_R_procedure_1 : decode xb_R_procedure 1 = .ok (.iconst 0, 1) := by decide +kernel
theorem xd_R_procedure_2 : decode xb_R_procedure 2 = .ok (.iconst 2, 1) := by decide +kernel
theorem xd_R_procedure_3 : decode xb_R_procedure 3 = .ok (.invokestatic 83, 3) := by decide +kernel
theorem xd_R_procedure_6 : decode xb_R_procedure 6 = .ok (.ifCond .ne 5, 3) := by decide +kernel
theorem xd_R_procedure_9 : decode xb_R_procedure 9 = .ok (.iconst (-1), 1) := by decide +kernel
theorem xd_R_procedure_10 : decode xb_R_procedure 10 = .ok (.ireturn, 1) := by decide +kernel
theorem xd_R_procedure_11 : decode xb_R_procedure 11 = .ok (.aload_n 0, 1) := by decide +kernel
theorem xd_R_procedure_12 : decode xb_R_procedure 12 = .ok (.getfield 16, 3) := by decide +kernel
theorem xd_R_procedure_15 : decode xb_R_procedure 15 = .ok (.bipush 12, 2) := by decide +kernel
theorem xd_R_procedure_17 : decode xb_R_procedure 17 = .ok (.iaload, 1) := by decide +kernel
theorem xd_R_procedure_18 : decode xb_R_procedure 18 = .ok (.istore_n 2, 1) := by decide +kernel
theorem xd_R_procedure_19 : decode xb_R_procedure 19 = .ok (.iload_n 2, 1) := by decide +kernel
theorem xd_R_procedure_20 : decode xb_R_procedure 20 = .ok (.iconst 3, 1) := by decide +kernel
theorem xd_R_procedure_21 : decode xb_R_procedure 21 = .ok (.if_icmp .ne 6, 3) := by decide +kernel
theorem xd_R_procedure_24 : decode xb_R_procedure 24 = .ok (.bipush (-2), 2) := by decide +kernel
theorem xd_R_procedure_26 : decode xb_R_procedure 26 = .ok (.ireturn, 1) := by decide +kernel
theorem xd_R_procedure_27 : decode xb_R_procedure 27 = .ok (.aload_n 0, 1) := by decide +kernel
theorem xd_R_procedure_28 : decode xb_R_procedure 28 = .ok (.getfield 19, 3) := by decide +kernel
theorem xd_R_procedure_31 : decode xb_R_procedure 31 = .ok (.bipush 36, 2) := by decide +kernel
theorem xd_R_procedure_33 : decode xb_R_procedure 33 = .ok (.iload_n 2, 1) := by decide +kernel
theorem xd_R_procedure_34 : decode xb_R_procedure 34 = .ok (.iadd, 1) := by decide +kernel
theorem xd_R_procedure_35 : decode xb_R_procedure 35 = .ok (.iload_n 1, 1) := by decide +kernel
theorem xd_R_procedure_36 : decode xb_R_procedure 36 = .ok (.iastore, 1) := by decide +kernel
theorem xd_R_procedure_37 : decode xb_R_procedure 37 = .ok (.aload_n 0, 1) := by decide +kernel
theorem xd_R_procedure_38 : decode xb_R_procedure 38 = .ok (.getfield 22, 3) := by decide +kernel
theorem xd_R_procedure_41 : decode xb_R_procedure 41 = .ok (.bipush 36, 2) := by decide +kernel
theorem xd_R_procedure_43 : decode xb_R_procedure 43 = .ok (.iload_n 2, 1) := by decide +kernel
theorem xd_R_procedure_44 : decode xb_R_procedure 44 = .ok (.iadd, 1) := by decide +kernel
theorem xd_R_procedure_45 : decode xb_R_procedure 45 = .ok (.iconst 0, 1) := by decide +kernel
theorem xd_R_procedure_46 : decode xb_R_procedure 46 = .ok (.iastore, 1) := by decide +kernel
theorem xd_R_procedure_47 : decode xb_R_procedure 47 = .ok (.aload_n 0, 1) := by decide +kernel
theorem xd_R_procedure_48 : decode xb_R_procedure 48 = .ok (.getfield 16, 3) := by decide +kernel
theorem xd_R_procedure_51 : decode xb_R_procedure 51 = .ok (.bipush 12, 2) := by decide +kernel
theorem xd_R_procedure_53 : decode xb_R_procedure 53 = .ok (.dup2, 1) := by decide +kernel
theorem xd_R_procedure_54 : decode xb_R_procedure 54 = .ok (.iaload, 1) := by decide +kernel
theorem xd_R_procedure_55 : decode xb_R_procedure 55 = .ok (.iconst 1, 1) := by decide +kernel
theorem xd_R_procedure_56 : decode xb_R_procedure 56 = .ok (.iadd, 1) := by decide +kernel
theorem xd_R_procedure_57 : decode xb_R_procedure 57 = .ok (.iastore, 1) := by decide +kernel
theorem xd_R_procedure_58 : decode xb_R_procedure 58 = .ok (.iload_n 2, 1) := by decide +kernel
theorem xd_R_procedure_59 : decode xb_R_procedure 59 = .ok (.ireturn, 1) := by decide +kernel
theorem xd_R_token_0 : decode xb_R_token 0 = .ok (.iload_n 1, 1) := by decide +kernel
theorem xd_R_token_1 : decode xb_R_token 1 = .ok (.iconst 0, 1) := by decide +kernel
theorem xd_R_token_2 : decode xb_R_token 2 = .ok (.bipush 11, 2) := by decide +kernel
theorem xd_R_token_4 : decode xb_R_token 4 = .ok (.invokestatic 83, 3) := by decide +kernel
theorem xd_R_token_7 : decode xb_R_token 7 = .ok (.ifCond .eq 13, 3) := by decide +kernel
theorem xd_R_token_10 : decode xb_R_token 10 = .ok (.aload_n 0, 1) := by decide +kernel
theorem xd_R_token_11 : decode xb_R_token 11 = .ok (.getfield 16, 3) := by decide +kernel
theorem xd_R_token_14 : decode xb_R_token 14 = .ok (.bipush 12, 2) := by decide +kernel
theorem xd_R_token_16 : decode xb_R_token 16 = .ok (.iaload, 1) := by decide +kernel
theorem xd_R_token_17 : decode xb_R_token 17 = .ok (.ifCond .ne 5, 3) := by decide +kernel
theorem xd_R_token_20 : decode xb_R_token 20 = .ok (.iconst (-1), 1) := by decide +kernel
theorem xd_R_token_21 : decode xb_R_token 21 = .ok (.ireturn, 1) := by decide +kernel
theorem xd_R_token_22 : decode xb_R_token 22 = .ok (.bipush 36, 2) := by decide +kernel
theorem xd_R_token_24 : decode xb_R_token 24 = .ok (.aload_n 0, 1) := by decide +kernel
theorem xd_R_token_25 : decode xb_R_token 25 = .ok (.getfield 16, 3) := by decide +kernel
theorem xd_R_token_28 : decode xb_R_token 28 = .ok (.bipush 12, 2) := by decide +kernel
theorem xd_R_token_30 : decode xb_R_token 30 = .ok (.iaload, 1) := by decide +kernel
theorem xd_R_token_31 : decode xb_R_token 31 = .ok (.iadd, 1) := by decide +kernel
theorem xd_R_token_32 : decode xb_R_token 32 = .ok (.iconst 1, 1) := by decide +kernel
theorem xd_R_token_33 : decode xb_R_token 33 = .ok (.isub, 1) := by decide +kernel
theorem xd_R_token_34 : decode xb_R_token 34 = .ok (.istore 4, 2) := by decide +kernel
theorem xd_R_token_36 : decode xb_R_token 36 = .ok (.aload_n 0, 1) := by decide +kernel
theorem xd_R_token_37 : decode xb_R_token 37 = .ok (.getfield 22, 3) := by decide +kernel
theorem xd_R_token_40 : decode xb_R_token 40 = .ok (.iload 4, 2) := by decide +kernel
theorem xd_R_token_42 : decode xb_R_token 42 = .ok (.iaload, 1) := by decide +kernel
theorem xd_R_token_43 : decode xb_R_token 43 = .ok (.bipush 14, 2) := by decide +kernel
theorem xd_R_token_45 : decode xb_R_token 45 = .ok (.if_icmp .ne 6, 3) := by decide +kernel
theorem xd_R_token_48 : decode xb_R_token 48 = .ok (.bipush (-2), 2) := by decide +kernel
theorem xd_R_token_50 : decode xb_R_token 50 = .ok (.ireturn, 1) := by decide +kernel
theorem xd_R_token_51 : decode xb_R_token 51 = .ok (.bipush 14, 2) := by decide +kernel
theorem xd_R_token_53 : decode xb_R_token 53 = .ok (.iload 4, 2) := by decide +kernel
theorem xd_R_token_55 : decode xb_R_token 55 = .ok (.imul, 1) := by decide +kernel
theorem xd_R_token_56 : decode xb_R_token 56 = .ok (.aload_n 0, 1) := by decide +kernel
theorem xd_R_token_57 : decode xb_R_token 57 = .ok (.getfield 22, 3) := by decide +kernel
theorem xd_R_token_60 : decode xb_R_token 60 = .ok (.iload 4, 2) := by decide +kernel
theorem xd_R_token_62 : decode xb_R_token 62 = .ok (.iaload, 1) := by decide +kernel
theorem xd_R_token_63 : decode xb_R_token 63 = .ok (.iadd, 1) := by decide +kernel
theorem xd_R_token_64 : decode xb_R_token 64 = .ok (.istore 5, 2) := by decide +kernel
theorem xd_R_token_66 : decode xb_R_token 66 = .ok (.aload_n 0, 1) := by decide +kernel
theorem xd_R_token_67 : decode xb_R_token 67 = .ok (.getfield 25, 3) := by decide +kernel
theorem xd_R_token_70 : decode xb_R_token 70 = .ok (.iload 5, 2) := by decide +kernel
theorem xd_R_token_72 : decode xb_R_token 72 = .ok (.iload_n 1, 1) := by decide +kernel
theorem xd_R_token_73 : decode xb_R_token 73 = .ok (.iastore, 1) := by decide +kernel
theorem xd_R_token_74 : decode xb_R_token 74 = .ok (.aload_n 0, 1) := by decide +kernel
theorem xd_R_token_75 : decode xb_R_token 75 = .ok (.getfield 28, 3) := by decide +kernel
theorem xd_R_token_78 : decode xb_R_token 78 = .ok (.iload 5, 2) := by decide +kernel
theorem xd_R_token_80 : decode xb_R_token 80 = .ok (.iload_n 2, 1) := by decide +kernel
theorem xd_R_token_81 : decode xb_R_token 81 = .ok (.iastore, 1) := by decide +kernel
theorem xd_R_token_82 : decode xb_R_token 82 = .ok (.aload_n 0, 1) := by decide +kernel
theorem xd_R_token_83 : decode xb_R_token 83 = .ok (.getfield 31, 3) := by decide +kernel
theorem xd_R_token_86 : decode xb_R_token 86 = .ok (.iload 5, 2) := by decide +kernel
theorem xd_R_token_88 : decode xb_R_token 88 = .ok (.iload_n 3, 1) := by decide +kernel
theorem xd_R_token_89 : decode xb_R_token 89 = .ok (.iastore, 1) := by decide +kernel
theorem xd_R_token_90 : decode xb_R_token 90 = .ok (.aload_n 0, 1) := by decide +kernel
theorem xd_R_token_91 : decode xb_R_token 91 = .ok (.getfield 22, 3) := by decide +kernel
theorem xd_R_token_94 : decode xb_R_token 94 = .ok (.iload 4, 2) := by decide +kernel
theorem xd_R_token_96 : decode xb_R_token 96 = .ok (.dup2, 1) := by decide +kernel
theorem xd_R_token_97 : decode xb_R_token 97 = .ok (.iaload, 1) := by decide +kernel
theorem xd_R_token_98 : decode xb_R_token 98 = .ok (.iconst 1, 1) := by decide +kernel
theorem xd_R_token_99 : decode xb_R_token 99 = .ok (.iadd, 1) := by decide +kernel
theorem xd_R_token_100 : decode xb_R_token 100 = .ok (.iastore, 1) := by decide +kernel
theorem xd_R_token_101 : decode xb_R_token 101 = .ok (.aload_n 0, 1) := by decide +kernel
theorem xd_R_token_102 : decode xb_R_token 102 = .ok (.getfield 22, 3) := by decide +kernel
theorem xd_R_token_105 : decode xb_R_token 105 = .ok (.iload 4, 2) := by decide +kernel
theorem xd_R_token_107 : decode xb_R_token 107 = .ok (.iaload, 1) := by decide +kernel
theorem xd_R_token_108 : decode xb_R_token 108 = .ok (.ireturn, 1) := by decide +kernel
theorem xd_R_seen_0 : decode xb_R_seen 0 = .ok (.iload_n 1, 1) := by decide +kernel
theorem xd_R_seen_1 : decode xb_R_seen 1 = .ok (.iload_n 2, 1) := by decide +kernel
theorem xd_R_seen_2 : decode xb_R_seen 2 = .ok (.if_icmp .ne 6, 3) := by decide +kernel
theorem xd_R_seen_5 : decode xb_R_seen 5 = .ok (.bipush 12, 2) := by decide +kernel
theorem xd_R_seen_7 : decode xb_R_seen 7 = .ok (.ireturn, 1) := by decide +kernel
theorem xd_R_seen_8 : decode xb_R_seen 8 = .ok (.iload_n 1, 1) := by decide +kernel
theorem xd_R_seen_9 : decode xb_R_seen 9 = .ok (.iconst 0, 1) := by decide +kernel
theorem xd_R_seen_10 : decode xb_R_seen 10 = .ok (.iconst 5, 1) := by decide +kernel
theorem xd_R_seen_11 : decode xb_R_seen 11 = .ok (.invokestatic 83, 3) := by decide +kernel
theorem xd_R_seen_14 : decode xb_R_seen 14 = .ok (.ifCond .eq 16, 3) := by decide +kernel
theorem xd_R_seen_17 : decode xb_R_seen 17 = .ok (.aload_n 0, 1) := by decide +kernel
theorem xd_R_seen_18 : decode xb_R_seen 18 = .ok (.getfield 7, 3) := by decide +kernel
theorem xd_R_seen_21 : decode xb_R_seen 21 = .ok (.iload_n 1, 1) := by decide +kernel
theorem xd_R_seen_22 : decode xb_R_seen 22 = .ok (.iaload, 1) := by decide +kernel
theorem xd_R_seen_23 : decode xb_R_seen 23 = .ok (.ifCond .le 7, 3) := by decide +kernel
theorem xd_R_seen_26 : decode xb_R_seen 26 = .ok (.iload_n 1, 1) := by decide +kernel
theorem xd_R_seen_27 : decode xb_R_seen 27 = .ok (.goto 4, 3) := by decide +kernel
theorem xd_R_seen_30 : decode xb_R_seen 30 = .ok (.iconst (-1), 1) := by decide +kernel
theorem xd_R_seen_31 : decode xb_R_seen 31 = .ok (.ireturn, 1) := by decide +kernel
theorem xd_R_partsOf_0 : decode xb_R_partsOf 0 = .ok (.aload_n 0, 1) := by decide +kernel
theorem xd_R_partsOf_1 : decode xb_R_partsOf 1 = .ok (.getfield 28, 3) := by decide +kernel
theorem xd_R_partsOf_4 : decode xb_R_partsOf 4 = .ok (.iload_n 1, 1) := by decide +kernel
theorem xd_R_partsOf_5 : decode xb_R_partsOf 5 = .ok (.iaload, 1) := by decide +kernel
theorem xd_R_partsOf_6 : decode xb_R_partsOf 6 = .ok (.istore 4, 2) := by decide +kernel
theorem xd_R_partsOf_8 : decode xb_R_partsOf 8 = .ok (.aload_n 0, 1) := by decide +kernel
theorem xd_R_partsOf_9 : decode xb_R_partsOf 9 = .ok (.iload 4, 2) := by decide +kernel
theorem xd_R_partsOf_11 : decode xb_R_partsOf 11 = .ok (.iload_n 3, 1) := by decide +kernel
theorem xd_R_partsOf_12 : decode xb_R_partsOf 12 = .ok (.invokevirtual 87, 3) := by decide +kernel
theorem xd_R_partsOf_15 : decode xb_R_partsOf 15 = .ok (.istore 5, 2) := by decide +kernel
theorem xd_R_partsOf_17 : decode xb_R_partsOf 17 = .ok (.aload_n 0, 1) := by decide +kernel
theorem xd_R_partsOf_18 : decode xb_R_partsOf 18 = .ok (.getfield 25, 3) := by decide +kernel
theorem xd_R_partsOf_21 : decode xb_R_partsOf 21 = .ok (.iload_n 1, 1) := by decide +kernel
theorem xd_R_partsOf_22 : decode xb_R_partsOf 22 = .ok (.iaload, 1) := by decide +kernel
theorem xd_R_partsOf_23 : decode xb_R_partsOf 23 = .ok (.tableswitch 197 0 11 #[61, 63, 86, 119, 197, 197, 197, 197, 197, 147, 197, 149], 61) := by decide +kernel
theorem xd_R_partsOf_84 : decode xb_R_partsOf 84 = .ok (.iconst 0, 1) := by decide +kernel
theorem xd_R_partsOf_85 : decode xb_R_partsOf 85 = .ok (.ireturn, 1) := by decide +kernel
theorem xd_R_partsOf_86 : decode xb_R_partsOf 86 = .ok (.iload 4, 2) := by decide +kernel
theorem xd_R_partsOf_88 : decode xb_R_partsOf 88 = .ok (.iconst 0, 1) := by decide +kernel
theorem xd_R_partsOf_89 : decode xb_R_partsOf 89 = .ok (.aload_n 0, 1) := by decide +kernel
theorem xd_R_partsOf_90 : decode xb_R_partsOf 90 = .ok (.getfield 19, 3) := by decide +kernel
theorem xd_R_partsOf_93 : decode xb_R_partsOf 93 = .ok (.iload_n 2, 1) := by decide +kernel
theorem xd_R_partsOf_94 : decode xb_R_partsOf 94 = .ok (.iaload, 1) := by decide +kernel
theorem xd_R_partsOf_95 : decode xb_R_partsOf 95 = .ok (.iconst 1, 1) := by decide +kernel
theorem xd_R_partsOf_96 : decode xb_R_partsOf 96 = .ok (.isub, 1) := by decide +kernel
theorem xd_R_partsOf_97 : decode xb_R_partsOf 97 = .ok (.invokestatic 83, 3) := by decide +kernel
theorem xd_R_partsOf_100 : decode xb_R_partsOf 100 = .ok (.ifCond .eq 7, 3) := by decide +kernel
theorem xd_R_partsOf_103 : decode xb_R_partsOf 103 = .ok (.iconst 0, 1) := by decide +kernel
theorem xd_R_partsOf_104 : decode xb_R_partsOf 104 = .ok (.goto 4, 3) := by decide +kernel
theorem xd_R_partsOf_107 : decode xb_R_partsOf 107 = .ok (.iconst (-1), 1) := by decide +kernel
theorem xd_R_partsOf_108 : decode xb_R_partsOf 108 = .ok (.ireturn, 1) := by decide +kernel
theorem xd_R_partsOf_109 : decode xb_R_partsOf 109 = .ok (.iload 5, 2) := by decide +kernel
theorem xd_R_partsOf_111 : decode xb_R_partsOf 111 = .ok (.ifCond .lt 29, 3) := by decide +kernel
theorem xd_R_partsOf_114 : decode xb_R_partsOf 114 = .ok (.aload_n 0, 1) := by decide +kernel
theorem xd_R_partsOf_115 : decode xb_R_partsOf 115 = .ok (.getfield 31, 3) := by decide +kernel
theorem xd_R_partsOf_118 : decode xb_R_partsOf 118 = .ok (.iload_n 1, 1) := by decide +kernel
theorem xd_R_partsOf_119 : decode xb_R_partsOf 119 = .ok (.iaload, 1) := by decide +kernel
theorem xd_R_partsOf_120 : decode xb_R_partsOf 120 = .ok (.iconst 0, 1) := by decide +kernel
theorem xd_R_partsOf_121 : decode xb_R_partsOf 121 = .ok (.aload_n 0, 1) := by decide +kernel
theorem xd_R_partsOf_122 : decode xb_R_partsOf 122 = .ok (.getfield 13, 3) := by decide +kernel
theorem xd_R_partsOf_125 : decode xb_R_partsOf 125 = .ok (.iload 5, 2) := by decide +kernel
theorem xd_R_partsOf_127 : decode xb_R_partsOf 127 = .ok (.iaload, 1) := by decide +kernel
theorem xd_R_partsOf_128 : decode xb_R_partsOf 128 = .ok (.iconst 1, 1) := by decide +kernel
theorem xd_R_partsOf_129 : decode xb_R_partsOf 129 = .ok (.isub, 1) := by decide +kernel
theorem xd_R_partsOf_130 : decode xb_R_partsOf 130 = .ok (.invokestatic 83, 3) := by decide +kernel
theorem xd_R_partsOf_133 : decode xb_R_partsOf 133 = .ok (.ifCond .eq 7, 3) := by decide +kernel
theorem xd_R_partsOf_136 : decode xb_R_partsOf 136 = .ok (.iconst 0, 1) := by decide +kernel
theorem xd_R_partsOf_137 : decode xb_R_partsOf 137 = .ok (.goto 4, 3) := by decide +kernel
theorem xd_R_partsOf_140 : decode xb_R_partsOf 140 = .ok (.iconst (-1), 1) := by decide +kernel
theorem xd_R_partsOf_141 : decode xb_R_partsOf 141 = .ok (.ireturn, 1) := by decide +kernel
theorem xd_R_partsOf_142 : decode xb_R_partsOf 142 = .ok (.aload_n 0, 1) := by decide +kernel
theorem xd_R_partsOf_143 : decode xb_R_partsOf 143 = .ok (.getfield 31, 3) := by decide +kernel
theorem xd_R_partsOf_146 : decode xb_R_partsOf 146 = .ok (.iload_n 1, 1) := by decide +kernel
theorem xd_R_partsOf_147 : decode xb_R_partsOf 147 = .ok (.iaload, 1) := by decide +kernel
theorem xd_R_partsOf_148 : decode xb_R_partsOf 148 = .ok (.iconst 0, 1) := by decide +kernel
theorem xd_R_partsOf_149 : decode xb_R_partsOf 149 = .ok (.aload_n 0, 1) := by decide +kernel
theorem xd_R_partsOf_150 : decode xb_R_partsOf 150 = .ok (.getfield 13, 3) := by decide +kernel
theorem xd_R_partsOf_153 : decode xb_R_partsOf 153 = .ok (.bipush 12, 2) := by decide +kernel
theorem xd_R_partsOf_155 : decode xb_R_partsOf 155 = .ok (.iaload, 1) := by decide +kernel
theorem xd_R_partsOf_156 : decode xb_R_partsOf 156 = .ok (.iconst 1, 1) := by decide +kernel
theorem xd_R_partsOf_157 : decode xb_R_partsOf 157 = .ok (.isub, 1) := by decide +kernel
theorem xd_R_partsOf_158 : decode xb_R_partsOf 158 = .ok (.invokestatic 83, 3) := by decide +kernel
theorem xd_R_partsOf_161 : decode xb_R_partsOf 161 = .ok (.ifCond .eq 7, 3) := by decide +kernel
theorem xd_R_partsOf_164 : decode xb_R_partsOf 164 = .ok (.iconst 1, 1) := by decide +kernel
theorem xd_R_partsOf_165 : decode xb_R_partsOf 165 = .ok (.goto 4, 3) := by decide +kernel
theorem xd_R_partsOf_168 : decode xb_R_partsOf 168 = .ok (.iconst (-1), 1) := by decide +kernel
theorem xd_R_partsOf_169 : decode xb_R_partsOf 169 = .ok (.ireturn, 1) := by decide +kernel
theorem xd_R_partsOf_170 : decode xb_R_partsOf 170 = .ok (.iconst 3, 1) := by decide +kernel
theorem xd_R_partsOf_171 : decode xb_R_partsOf 171 = .ok (.ireturn, 1) := by decide +kernel
theorem xd_R_partsOf_172 : decode xb_R_partsOf 172 = .ok (.iload 5, 2) := by decide +kernel
theorem xd_R_partsOf_174 : decode xb_R_partsOf 174 = .ok (.ifCond .lt 44, 3) := by decide +kernel
theorem xd_R_partsOf_177 : decode xb_R_partsOf 177 = .ok (.aload_n 0, 1) := by decide +kernel
theorem xd_R_partsOf_178 : decode xb_R_partsOf 178 = .ok (.getfield 31, 3) := by decide +kernel
theorem xd_R_partsOf_181 : decode xb_R_partsOf 181 = .ok (.iload_n 1, 1) := by decide +kernel
theorem xd_R_partsOf_182 : decode xb_R_partsOf 182 = .ok (.iaload, 1) := by decide +kernel
theorem xd_R_partsOf_183 : decode xb_R_partsOf 183 = .ok (.iconst 0, 1) := by decide +kernel
theorem xd_R_partsOf_184 : decode xb_R_partsOf 184 = .ok (.aload_n 0, 1) := by decide +kernel
theorem xd_R_partsOf_185 : decode xb_R_partsOf 185 = .ok (.getfield 16, 3) := by decide +kernel
theorem xd_R_partsOf_188 : decode xb_R_partsOf 188 = .ok (.iload 5, 2) := by decide +kernel
theorem xd_R_partsOf_190 : decode xb_R_partsOf 190 = .ok (.iaload, 1) := by decide +kernel
theorem xd_R_partsOf_191 : decode xb_R_partsOf 191 = .ok (.iconst 1, 1) := by decide +kernel
theorem xd_R_partsOf_192 : decode xb_R_partsOf 192 = .ok (.isub, 1) := by decide +kernel
theorem xd_R_partsOf_193 : decode xb_R_partsOf 193 = .ok (.invokestatic 83, 3) := by decide +kernel
theorem xd_R_partsOf_196 : decode xb_R_partsOf 196 = .ok (.ifCond .eq 22, 3) := by decide +kernel
theorem xd_R_partsOf_199 : decode xb_R_partsOf 199 = .ok (.aload_n 0, 1) := by decide +kernel
theorem xd_R_partsOf_200 : decode xb_R_partsOf 200 = .ok (.getfield 19, 3) := by decide +kernel
theorem xd_R_partsOf_203 : decode xb_R_partsOf 203 = .ok (.iconst 3, 1) := by decide +kernel
theorem xd_R_partsOf_204 : decode xb_R_partsOf 204 = .ok (.iload 5, 2) := by decide +kernel
theorem xd_R_partsOf_206 : decode xb_R_partsOf 206 = .ok (.imul, 1) := by decide +kernel
theorem xd_R_partsOf_207 : decode xb_R_partsOf 207 = .ok (.aload_n 0, 1) := by decide +kernel
theorem xd_R_partsOf_208 : decode xb_R_partsOf 208 = .ok (.getfield 31, 3) := by decide +kernel
theorem xd_R_partsOf_211 : decode xb_R_partsOf 211 = .ok (.iload_n 1, 1) := by decide +kernel
theorem xd_R_partsOf_212 : decode xb_R_partsOf 212 = .ok (.iaload, 1) := by decide +kernel
theorem xd_R_partsOf_213 : decode xb_R_partsOf 213 = .ok (.iadd, 1) := by decide +kernel
theorem xd_R_partsOf_214 : decode xb_R_partsOf 214 = .ok (.iaload, 1) := by decide +kernel
theorem xd_R_partsOf_215 : decode xb_R_partsOf 215 = .ok (.goto 4, 3) := by decide +kernel
theorem xd_R_partsOf_218 : decode xb_R_partsOf 218 = .ok (.iconst (-1), 1) := by decide +kernel
theorem xd_R_partsOf_219 : decode xb_R_partsOf 219 = .ok (.ireturn, 1) := by decide +kernel
theorem xd_R_partsOf_220 : decode xb_R_partsOf 220 = .ok (.iconst 2, 1) := by decide +kernel
theorem xd_R_partsOf_221 : decode xb_R_partsOf 221 = .ok (.ireturn, 1) := by decide +kernel
theorem xd_R_firstWrong_0 : decode xb_R_firstWrong 0 = .ok (.iconst 0, 1) := by decide +kernel
theorem xd_R_firstWrong_1 : decode xb_R_firstWrong 1 = .ok (.istore_n 3, 1) := by decide +kernel
theorem xd_R_firstWrong_2 : decode xb_R_firstWrong 2 = .ok (.iconst 0, 1) := by decide +kernel
theorem xd_R_firstWrong_3 : decode xb_R_firstWrong 3 = .ok (.istore 4, 2) := by decide +kernel
theorem xd_R_firstWrong_5 : decode xb_R_firstWrong 5 = .ok (.iconst 0, 1) := by decide +kernel
theorem xd_R_firstWrong_6 : decode xb_R_firstWrong 6 = .ok (.istore 5, 2) := by decide +kernel
theorem xd_R_firstWrong_8 : decode xb_R_firstWrong 8 = .ok (.iload 5, 2) := by decide +kernel
theorem xd_R_firstWrong_10 : decode xb_R_firstWrong 10 = .ok (.aload_n 0, 1) := by decide +kernel
theorem xd_R_firstWrong_11 : decode xb_R_firstWrong 11 = .ok (.getfield 22, 3) := by decide +kernel
theorem xd_R_firstWrong_14 : decode xb_R_firstWrong 14 = .ok (.iload_n 1, 1) := by decide +kernel
theorem xd_R_firstWrong_15 : decode xb_R_firstWrong 15 = .ok (.iaload, 1) := by decide +kernel
theorem xd_R_firstWrong_16 : decode xb_R_firstWrong 16 = .ok (.if_icmp .ge 106, 3) := by decide +kernel
theorem xd_R_firstWrong_19 : decode xb_R_firstWrong 19 = .ok (.aload_n 0, 1) := by decide +kernel
theorem xd_R_firstWrong_20 : decode xb_R_firstWrong 20 = .ok (.bipush 14, 2) := by decide +kernel
theorem xd_R_firstWrong_22 : decode xb_R_firstWrong 22 = .ok (.iload_n 1, 1) := by decide +kernel
theorem xd_R_firstWrong_23 : decode xb_R_firstWrong 23 = .ok (.imul, 1) := by decide +kernel
theorem xd_R_firstWrong_24 : decode xb_R_firstWrong 24 = .ok (.iload 5, 2) := by decide +kernel
theorem xd_R_firstWrong_26 : decode xb_R_firstWrong 26 = .ok (.iadd, 1) := by decide +kernel
theorem xd_R_firstWrong_27 : decode xb_R_firstWrong 27 = .ok (.iload_n 1, 1) := by decide +kernel
theorem xd_R_firstWrong_28 : decode xb_R_firstWrong 28 = .ok (.iload_n 2, 1) := by decide +kernel
theorem xd_R_firstWrong_29 : decode xb_R_firstWrong 29 = .ok (.invokevirtual 91, 3) := by decide +kernel
theorem xd_R_firstWrong_32 : decode xb_R_firstWrong 32 = .ok (.istore 6, 2) := by decide +kernel
theorem xd_R_firstWrong_34 : decode xb_R_firstWrong 34 = .ok (.iload 4, 2) := by decide +kernel
theorem xd_R_firstWrong_36 : decode xb_R_firstWrong 36 = .ok (.ifCond .ne 13, 3) := by decide +kernel
theorem xd_R_firstWrong_39 : decode xb_R_firstWrong 39 = .ok (.iload 6, 2) := by decide +kernel
theorem xd_R_firstWrong_41 : decode xb_R_firstWrong 41 = .ok (.ifCond .lt 8, 3) := by decide +kernel
theorem xd_R_firstWrong_44 : decode xb_R_firstWrong 44 = .ok (.iload_n 3, 1) := by decide +kernel
theorem xd_R_firstWrong_45 : decode xb_R_firstWrong 45 = .ok (.iconst 4, 1) := by decide +kernel
theorem xd_R_firstWrong_46 : decode xb_R_firstWrong 46 = .ok (.if_icmp .le 6, 3) := by decide +kernel
theorem xd_R_firstWrong_49 : decode xb_R_firstWrong 49 = .ok (.iload 5, 2) := by decide +kernel
theorem xd_R_firstWrong_51 : decode xb_R_firstWrong 51 = .ok (.ireturn, 1) := by decide +kernel
theorem xd_R_firstWrong_52 : decode xb_R_firstWrong 52 = .ok (.iload_n 3, 1) := by decide +kernel
theorem xd_R_firstWrong_53 : decode xb_R_firstWrong 53 = .ok (.ifCond .le 15, 3) := by decide +kernel
theorem xd_R_firstWrong_56 : decode xb_R_firstWrong 56 = .ok (.aload_n 0, 1) := by decide +kernel
theorem xd_R_firstWrong_57 : decode xb_R_firstWrong 57 = .ok (.getfield 56, 3) := by decide +kernel
theorem xd_R_firstWrong_60 : decode xb_R_firstWrong 60 = .ok (.iload_n 3, 1) := by decide +kernel
theorem xd_R_firstWrong_61 : decode xb_R_firstWrong 61 = .ok (.iconst 1, 1) := by decide +kernel
theorem xd_R_firstWrong_62 : decode xb_R_firstWrong 62 = .ok (.isub, 1) := by decide +kernel
theorem xd_R_firstWrong_63 : decode xb_R_firstWrong 63 = .ok (.dup2, 1) := by decide +kernel
theorem xd_R_firstWrong_64 : decode xb_R_firstWrong 64 = .ok (.iaload, 1) := by decide +kernel
theorem xd_R_firstWrong_65 : decode xb_R_firstWrong 65 = .ok (.iconst 1, 1) := by decide +kernel
theorem xd_R_firstWrong_66 : decode xb_R_firstWrong 66 = .ok (.isub, 1) := by decide +kernel
theorem xd_R_firstWrong_67 : decode xb_R_firstWrong 67 = .ok (.iastore, 1) := by decide +kernel
theorem xd_R_firstWrong_68 : decode xb_R_firstWrong 68 = .ok (.iload 6, 2) := by decide +kernel
theorem xd_R_firstWrong_70 : decode xb_R_firstWrong 70 = .ok (.ifCond .le 14, 3) := by decide +kernel
theorem xd_R_firstWrong_73 : decode xb_R_firstWrong 73 = .ok (.aload_n 0, 1) := by decide +kernel
theorem xd_R_firstWrong_74 : decode xb_R_firstWrong 74 = .ok (.getfield 56, 3) := by decide +kernel
theorem xd_R_firstWrong_77 : decode xb_R_firstWrong 77 = .ok (.iload_n 3, 1) := by decide +kernel
theorem xd_R_firstWrong_78 : decode xb_R_firstWrong 78 = .ok (.iload 6, 2) := by decide +kernel
theorem xd_R_firstWrong_80 : decode xb_R_firstWrong 80 = .ok (.iastore, 1) := by decide +kernel
theorem xd_R_firstWrong_81 : decode xb_R_firstWrong 81 = .ok (.iinc 3 1, 3) := by decide +kernel
theorem xd_R_firstWrong_84 : decode xb_R_firstWrong 84 = .ok (.iload_n 3, 1) := by decide +kernel
theorem xd_R_firstWrong_85 : decode xb_R_firstWrong 85 = .ok (.ifCond .le 20, 3) := by decide +kernel
theorem xd_R_firstWrong_88 : decode xb_R_firstWrong 88 = .ok (.aload_n 0, 1) := by decide +kernel
theorem xd_R_firstWrong_89 : decode xb_R_firstWrong 89 = .ok (.getfield 56, 3) := by decide +kernel
theorem xd_R_firstWrong_92 : decode xb_R_firstWrong 92 = .ok (.iload_n 3, 1) := by decide +kernel
theorem xd_R_firstWrong_93 : decode xb_R_firstWrong 93 = .ok (.iconst 1, 1) := by decide +kernel
theorem xd_R_firstWrong_94 : decode xb_R_firstWrong 94 = .ok (.isub, 1) := by decide +kernel
theorem xd_R_firstWrong_95 : decode xb_R_firstWrong 95 = .ok (.iaload, 1) := by decide +kernel
theorem xd_R_firstWrong_96 : decode xb_R_firstWrong 96 = .ok (.ifCond .ne 9, 3) := by decide +kernel
theorem xd_R_firstWrong_99 : decode xb_R_firstWrong 99 = .ok (.iinc 3 (-1), 3) := by decide +kernel
theorem xd_R_firstWrong_102 : decode xb_R_firstWrong 102 = .ok (.goto (-18), 3) := by decide +kernel
theorem xd_R_firstWrong_105 : decode xb_R_firstWrong 105 = .ok (.iload_n 3, 1) := by decide +kernel
theorem xd_R_firstWrong_106 : decode xb_R_firstWrong 106 = .ok (.ifCond .ne 7, 3) := by decide +kernel
theorem xd_R_firstWrong_109 : decode xb_R_firstWrong 109 = .ok (.iconst 1, 1) := by decide +kernel
theorem xd_R_firstWrong_110 : decode xb_R_firstWrong 110 = .ok (.goto 4, 3) := by decide +kernel
theorem xd_R_firstWrong_113 : decode xb_R_firstWrong 113 = .ok (.iconst 0, 1) := by decide +kernel
theorem xd_R_firstWrong_114 : decode xb_R_firstWrong 114 = .ok (.istore 4, 2) := by decide +kernel
theorem xd_R_firstWrong_116 : decode xb_R_firstWrong 116 = .ok (.iinc 5 1, 3) := by decide +kernel
theorem xd_R_firstWrong_119 : decode xb_R_firstWrong 119 = .ok (.goto (-111), 3) := by decide +kernel
theorem xd_R_firstWrong_122 : decode xb_R_firstWrong 122 = .ok (.iload 4, 2) := by decide +kernel
theorem xd_R_firstWrong_124 : decode xb_R_firstWrong 124 = .ok (.ifCond .eq 7, 3) := by decide +kernel
theorem xd_R_firstWrong_127 : decode xb_R_firstWrong 127 = .ok (.iconst (-1), 1) := by decide +kernel
theorem xd_R_firstWrong_128 : decode xb_R_firstWrong 128 = .ok (.goto 9, 3) := by decide +kernel
theorem xd_R_firstWrong_131 : decode xb_R_firstWrong 131 = .ok (.aload_n 0, 1) := by decide +kernel
theorem xd_R_firstWrong_132 : decode xb_R_firstWrong 132 = .ok (.getfield 22, 3) := by decide +kernel
theorem xd_R_firstWrong_135 : decode xb_R_firstWrong 135 = .ok (.iload_n 1, 1) := by decide +kernel
theorem xd_R_firstWrong_136 : decode xb_R_firstWrong 136 = .ok (.iaload, 1) := by decide +kernel
theorem xd_R_firstWrong_137 : decode xb_R_firstWrong 137 = .ok (.ireturn, 1) := by decide +kernel
theorem xd_R_alike_0 : decode xb_R_alike 0 = .ok (.aload_n 0, 1) := by decide +kernel
theorem xd_R_alike_1 : decode xb_R_alike 1 = .ok (.getfield 7, 3) := by decide +kernel
theorem xd_R_alike_4 : decode xb_R_alike 4 = .ok (.iload_n 1, 1) := by decide +kernel
theorem xd_R_alike_5 : decode xb_R_alike 5 = .ok (.iaload, 1) := by decide +kernel
theorem xd_R_alike_6 : decode xb_R_alike 6 = .ok (.ifCond .eq 35, 3) := by decide +kernel
theorem xd_R_alike_9 : decode xb_R_alike 9 = .ok (.aload_n 0, 1) := by decide +kernel
theorem xd_R_alike_10 : decode xb_R_alike 10 = .ok (.getfield 13, 3) := by decide +kernel
theorem xd_R_alike_13 : decode xb_R_alike 13 = .ok (.iload_n 1, 1) := by decide +kernel
theorem xd_R_alike_14 : decode xb_R_alike 14 = .ok (.iaload, 1) := by decide +kernel
theorem xd_R_alike_15 : decode xb_R_alike 15 = .ok (.aload_n 0, 1) := by decide +kernel
theorem xd_R_alike_16 : decode xb_R_alike 16 = .ok (.getfield 13, 3) := by decide +kernel
theorem xd_R_alike_19 : decode xb_R_alike 19 = .ok (.bipush 12, 2) := by decide +kernel
theorem xd_R_alike_21 : decode xb_R_alike 21 = .ok (.iaload, 1) := by decide +kernel
theorem xd_R_alike_22 : decode xb_R_alike 22 = .ok (.if_icmp .ne 19, 3) := by decide +kernel
theorem xd_R_alike_25 : decode xb_R_alike 25 = .ok (.aload_n 0, 1) := by decide +kernel
theorem xd_R_alike_26 : decode xb_R_alike 26 = .ok (.getfield 16, 3) := by decide +kernel
theorem xd_R_alike_29 : decode xb_R_alike 29 = .ok (.iload_n 1, 1) := by decide +kernel
theorem xd_R_alike_30 : decode xb_R_alike 30 = .ok (.iaload, 1) := by decide +kernel
theorem xd_R_alike_31 : decode xb_R_alike 31 = .ok (.aload_n 0, 1) := by decide +kernel
theorem xd_R_alike_32 : decode xb_R_alike 32 = .ok (.getfield 16, 3) := by decide +kernel
theorem xd_R_alike_35 : decode xb_R_alike 35 = .ok (.bipush 12, 2) := by decide +kernel
theorem xd_R_alike_37 : decode xb_R_alike 37 = .ok (.iaload, 1) := by decide +kernel
theorem xd_R_alike_38 : decode xb_R_alike 38 = .ok (.if_icmp .eq 5, 3) := by decide +kernel
theorem xd_R_alike_41 : decode xb_R_alike 41 = .ok (.iconst 0, 1) := by decide +kernel
theorem xd_R_alike_42 : decode xb_R_alike 42 = .ok (.ireturn, 1) := by decide +kernel
theorem xd_R_alike_43 : decode xb_R_alike 43 = .ok (.iconst 0, 1) := by decide +kernel
theorem xd_R_alike_44 : decode xb_R_alike 44 = .ok (.istore_n 2, 1) := by decide +kernel
theorem xd_R_alike_45 : decode xb_R_alike 45 = .ok (.iload_n 2, 1) := by decide +kernel
theorem xd_R_alike_46 : decode xb_R_alike 46 = .ok (.aload_n 0, 1) := by decide +kernel
theorem xd_R_alike_47 : decode xb_R_alike 47 = .ok (.getfield 16, 3) := by decide +kernel
theorem xd_R_alike_50 : decode xb_R_alike 50 = .ok (.iload_n 1, 1) := by decide +kernel
theorem xd_R_alike_51 : decode xb_R_alike 51 = .ok (.iaload, 1) := by decide +kernel
theorem xd_R_alike_52 : decode xb_R_alike 52 = .ok (.if_icmp .ge 33, 3) := by decide +kernel
theorem xd_R_alike_55 : decode xb_R_alike 55 = .ok (.aload_n 0, 1) := by decide +kernel
theorem xd_R_alike_56 : decode xb_R_alike 56 = .ok (.getfield 19, 3) := by decide +kernel
theorem xd_R_alike_59 : decode xb_R_alike 59 = .ok (.iconst 3, 1) := by decide +kernel
theorem xd_R_alike_60 : decode xb_R_alike 60 = .ok (.iload_n 1, 1) := by decide +kernel
theorem xd_R_alike_61 : decode xb_R_alike 61 = .ok (.imul, 1) := by decide +kernel
theorem xd_R_alike_62 : decode xb_R_alike 62 = .ok (.iload_n 2, 1) := by decide +kernel
theorem xd_R_alike_63 : decode xb_R_alike 63 = .ok (.iadd, 1) := by decide +kernel
theorem xd_R_alike_64 : decode xb_R_alike 64 = .ok (.iaload, 1) := by decide +kernel
theorem xd_R_alike_65 : decode xb_R_alike 65 = .ok (.aload_n 0, 1) := by decide +kernel
theorem xd_R_alike_66 : decode xb_R_alike 66 = .ok (.getfield 19, 3) := by decide +kernel
theorem xd_R_alike_69 : decode xb_R_alike 69 = .ok (.bipush 36, 2) := by decide +kernel
theorem xd_R_alike_71 : decode xb_R_alike 71 = .ok (.iload_n 2, 1) := by decide +kernel
theorem xd_R_alike_72 : decode xb_R_alike 72 = .ok (.iadd, 1) := by decide +kernel
theorem xd_R_alike_73 : decode xb_R_alike 73 = .ok (.iaload, 1) := by decide +kernel
theorem xd_R_alike_74 : decode xb_R_alike 74 = .ok (.if_icmp .eq 5, 3) := by decide +kernel
theorem xd_R_alike_77 : decode xb_R_alike 77 = .ok (.iconst 0, 1) := by decide +kernel
theorem xd_R_alike_78 : decode xb_R_alike 78 = .ok (.ireturn, 1) := by decide +kernel
theorem xd_R_alike_79 : decode xb_R_alike 79 = .ok (.iinc 2 1, 3) := by decide +kernel
theorem xd_R_alike_82 : decode xb_R_alike 82 = .ok (.goto (-37), 3) := by decide +kernel
theorem xd_R_alike_85 : decode xb_R_alike 85 = .ok (.iconst 1, 1) := by decide +kernel
theorem xd_R_alike_86 : decode xb_R_alike 86 = .ok (.ireturn, 1) := by decide +kernel
section
variable {l : Launch} {D : va_G} {ad : Nat → Nat} {ids : Nat → ClassId} {ps : Nat}
def xm_R_in (σ : aw_m) (a0 : Int32) (a1 : Int32) (a2 : Int32) : Option Int32 := (if a0 < a1 then some (0 : Int32) else (if a2 < a0 then some (0 : Int32) else some (1 : Int32)))
set_option maxHeartbeats 4000000 in
set_option maxRecDepth 100000 in
theorem xc_R_in (σ : aw_m) (a0 : Int32) (a1 : Int32) (a2 : Int32) (q : Int32)  (hm : xm_R_in σ a0 a1 a2 = some q) : aw_M l D (ty_z ids) (zs_T ps) xy_R_in (xw_R_in :: gw_l) (rm_D (0)) [.int a0, .int a1, .int a2] (rw_w ad ids σ) (some (.int q)) (rw_w ad ids σ) := by
  refine aw_intro (cc := xb_R_in) (n := 3) (ret := (some .boolean)) "ModuleShelfModel" rfl (by decide) rfl (Nat.le_of_ble_eq_true rfl) ?_
  intro κ C
  unfold xm_R_in at hm
  refine aw_iload_n C 0 xd_R_in_0 rfl rfl ?_
  refine aw_iload_n C 1 xd_R_in_1 rfl rfl ?_
  refine aw_icmp_lt (tgt := 14) C xd_R_in_2 (by decide) (fun c_2 => ?_) (fun c_2 => ?_)
  · rw [if_pos c_2] at hm
    refine aw_iconst (v := (0 : Int32)) C xd_R_in_14 (by decide) ?_
    cases hm
    exact aw_zret C (by decide) xd_R_in_15
  · rw [if_neg c_2] at hm
    refine aw_iload_n C 0 xd_R_in_5 rfl rfl ?_
    refine aw_iload_n C 2 xd_R_in_6 rfl rfl ?_
    refine aw_icmp_gt (tgt := 14) C xd_R_in_7 (by decide) (fun c_7 => ?_) (fun c_7 => ?_)
    · rw [if_pos c_7] at hm
      refine aw_iconst (v := (0 : Int32)) C xd_R_in_14 (by decide) ?_
      cases hm
      exact aw_zret C (by decide) xd_R_in_15
    · rw [if_neg c_7] at hm
      refine aw_iconst (v := (1 : Int32)) C xd_R_in_10 (by decide) ?_
      refine aw_goto (tgt := 15) C xd_R_in_11 (by decide) ?_
      cases hm
      exact aw_zret C (by decide) xd_R_in_15
def xm_R_begin (σ : aw_m) (a1 : Int32) : Option (Int32 × aw_m) := (xm_R_in σ a1 (0 : Int32) (3 : Int32)).bind fun q_3 => (if q_3 = 0 then some ((-1 : Int32), σ) else aw_l (aw_p σ 2 (Int32.toNatClampNeg (12 : Int32)) a1) fun s_18 => aw_l (aw_p s_18 3 (Int32.toNatClampNeg (12 : Int32)) (0 : Int32)) fun s_26 => some ((0 : Int32), s_26))
set_option maxHeartbeats 4000000 in
set_option maxRecDepth 100000 in
theorem xc_R_begin (σ : aw_m) (a1 : Int32) (q : Int32 × aw_m)  (hm : xm_R_begin σ a1 = some q) : aw_M l D (ty_z ids) (zs_T ps) xy_R_begin (xw_R_begin :: gw_l) (rm_D (1)) [.ref (ad 0), .int a1] (rw_w ad ids σ) (some (.int q.1)) (rw_w ad ids q.2) := by
  refine aw_intro (cc := xb_R_begin) (n := 2) (ret := (some .int)) "ModuleShelfModel" rfl (by decide) rfl (Nat.le_of_ble_eq_true rfl) ?_
  intro κ C
  unfold xm_R_begin at hm
  refine aw_iload_n C 1 xd_R_begin_0 rfl rfl ?_
  refine aw_iconst (v := (0 : Int32)) C xd_R_begin_1 (by decide) ?_
  refine aw_iconst (v := (3 : Int32)) C xd_R_begin_2 (by decide) ?_
  obtain ⟨q_3, e_3, hm⟩ := aw_bnd hm
  refine aw_callSi (As := [.int a1, .int (0 : Int32), .int (3 : Int32)]) (rest := []) C (xc_R_in σ a1 (0 : Int32) (3 : Int32) _  e_3) rfl (gw_sub (gw_S xg_R_in ml_R_83 st_R_in wi_R)) na_R_in (rm_lt (by decide) (by decide)) ⟨Nat.zero_le _, Nat.zero_le _⟩ rfl (Nat.le_of_ble_eq_true rfl) xd_R_begin_3 ?_
  refine aw_if_ne (tgt := 11) C xd_R_begin_6 (by decide) (fun c_6 => ?_) (fun c_6 => ?_)
  · rw [if_neg c_6] at hm
    refine aw_aload_n C 0 xd_R_begin_11 rfl rfl ?_
    refine aw_get C 0 (by decide) rfl rfl (fun w h => List.mem_cons_of_mem _ (xi_R w h)) 1 (by decide) rfl (List.mem_cons_of_mem _ fl_R_13) xd_R_begin_12 ?_
    refine aw_bipush (v := (12 : Int32)) C xd_R_begin_15 (by decide) ?_
    refine aw_iload_n C 1 xd_R_begin_17 rfl rfl ?_
    obtain ⟨s_18, h_18, hm⟩ := aw_let hm
    refine aw_iast (σ1 := s_18) (g := upd (σ 2) (Int32.toNatClampNeg (12 : Int32)) a1) C 2 (by decide) 0 rfl rfl (aw_in_ok rfl) rfl h_18 xd_R_begin_18 ?_
    refine aw_aload_n C 0 xd_R_begin_19 rfl rfl ?_
    refine aw_get C 0 (by decide) rfl rfl (fun w h => List.mem_cons_of_mem _ (xi_R w h)) 2 (by decide) rfl (List.mem_cons_of_mem _ fl_R_16) xd_R_begin_20 ?_
    refine aw_bipush (v := (12 : Int32)) C xd_R_begin_23 (by decide) ?_
    refine aw_iconst (v := (0 : Int32)) C xd_R_begin_25 (by decide) ?_
    obtain ⟨s_26, h_26, hm⟩ := aw_let hm
    refine aw_iast (σ1 := s_26) (g := upd (s_18 3) (Int32.toNatClampNeg (12 : Int32)) (0 : Int32)) C 3 (by decide) 0 rfl rfl (aw_in_ok rfl) rfl h_26 xd_R_begin_26 ?_
    refine aw_iconst (v := (0 : Int32)) C xd_R_begin_27 (by decide) ?_
    cases hm
    exact aw_iret C xd_R_begin_28
  · rw [if_pos c_6] at hm
    refine aw_iconst (v := (-1 : Int32)) C xd_R_begin_9 (by decide) ?_
    cases hm
    exact aw_iret C xd_R_begin_10
def xm_R_procedure (σ : aw_m) (a1 : Int32) : Option (Int32 × aw_m) := (xm_R_in σ a1 (0 : Int32) (2 : Int32)).bind fun q_3 => (if q_3 = 0 then some ((-1 : Int32), σ) else (if σ 3 (Int32.toNatClampNeg (12 : Int32)) = (3 : Int32) then some ((-2 : Int32), σ) else if aw_in ((36 : Int32) + (σ 3 (Int32.toNatClampNeg (12 : Int32)))) 39 = true then aw_l (aw_p σ 4 (Int32.toNatClampNeg ((36 : Int32) + (σ 3 (Int32.toNatClampNeg (12 : Int32))))) a1) fun s_36 => if aw_in ((36 : Int32) + (σ 3 (Int32.toNatClampNeg (12 : Int32)))) 39 = true then aw_l (aw_p s_36 5 (Int32.toNatClampNeg ((36 : Int32) + (σ 3 (Int32.toNatClampNeg (12 : Int32))))) (0 : Int32)) fun s_46 => aw_l (aw_p s_46 3 (Int32.toNatClampNeg (12 : Int32)) ((s_46 3 (Int32.toNatClampNeg (12 : Int32))) + (1 : Int32))) fun s_57 => some (σ 3 (Int32.toNatClampNeg (12 : Int32)), s_57) else none else none))
set_option maxHeartbeats 4000000 in
set_option maxRecDepth 100000 in
theorem xc_R_procedure (σ : aw_m) (a1 : Int32) (q : Int32 × aw_m)  (hm : xm_R_procedure σ a1 = some q) : aw_M l D (ty_z ids) (zs_T ps) xy_R_procedure (xw_R_procedure :: gw_l) (rm_D (1)) [.ref (ad 0), .int a1] (rw_w ad ids σ) (some (.int q.1)) (rw_w ad ids q.2) := by
  refine aw_intro (cc := xb_R_procedure) (n := 3) (ret := (some .int)) "ModuleShelfModel" rfl (by decide) rfl (Nat.le_of_ble_eq_true rfl) ?_
  intro κ C
  unfold xm_R_procedure at hm
  refine aw_iload_n C 1 xd_R_procedure_0 rfl rfl ?_
  refine aw_iconst (v := (0 : Int32)) C xd_R_procedure_1 (by decide) ?_
  refine aw_iconst (v := (2 : Int32)) C xd_R_procedure_2 (by decide) ?_
  obtain ⟨q_3, e_3, hm⟩ := aw_bnd hm
  refine aw_callSi (As := [.int a1, .int (0 : Int32), .int (2 : Int32)]) (rest := []) C (xc_R_in σ a1 (0 : Int32) (2 : Int32) _  e_3) rfl (gw_sub (gw_S xg_R_in ml_R_83 st_R_in wi_R)) na_R_in (rm_lt (by decide) (by decide)) ⟨Nat.zero_le _, Nat.zero_le _⟩ rfl (Nat.le_of_ble_eq_true rfl) xd_R_procedure_3 ?_
  refine aw_if_ne (tgt := 11) C xd_R_procedure_6 (by decide) (fun c_6 => ?_) (fun c_6 => ?_)
  · rw [if_neg c_6] at hm
    refine aw_aload_n C 0 xd_R_procedure_11 rfl rfl ?_
    refine aw_get C 0 (by decide) rfl rfl (fun w h => List.mem_cons_of_mem _ (xi_R w h)) 2 (by decide) rfl (List.mem_cons_of_mem _ fl_R_16) xd_R_procedure_12 ?_
    refine aw_bipush (v := (12 : Int32)) C xd_R_procedure_15 (by decide) ?_
    refine aw_iald C 3 (by decide) 0 rfl rfl (aw_in_ok rfl) xd_R_procedure_17 ?_
    refine aw_istore_n (L' := [(2, .int (σ 3 (Int32.toNatClampNeg (12 : Int32)))), (0, .ref (ad 0)), (1, .int a1)]) C xd_R_procedure_18 rfl (by decide) rfl ?_
    refine aw_iload_n C 0 xd_R_procedure_19 rfl rfl ?_
    refine aw_iconst (v := (3 : Int32)) C xd_R_procedure_20 (by decide) ?_
    refine aw_icmp_ne (tgt := 27) C xd_R_procedure_21 (by decide) (fun c_21 => ?_) (fun c_21 => ?_)
    · rw [if_neg c_21] at hm
      refine aw_aload_n C 1 xd_R_procedure_27 rfl rfl ?_
      refine aw_get C 0 (by decide) rfl rfl (fun w h => List.mem_cons_of_mem _ (xi_R w h)) 3 (by decide) rfl (List.mem_cons_of_mem _ fl_R_19) xd_R_procedure_28 ?_
      refine aw_bipush (v := (36 : Int32)) C xd_R_procedure_31 (by decide) ?_
      refine aw_iload_n C 0 xd_R_procedure_33 rfl rfl ?_
      refine aw_iadd C xd_R_procedure_34 ?_
      refine aw_iload_n C 2 xd_R_procedure_35 rfl rfl ?_
      obtain ⟨g_36, hm⟩ := aw_grd hm
      obtain ⟨s_36, h_36, hm⟩ := aw_let hm
      refine aw_iast (σ1 := s_36) (g := upd (σ 4) (Int32.toNatClampNeg ((36 : Int32) + (σ 3 (Int32.toNatClampNeg (12 : Int32))))) a1) C 4 (by decide) 0 rfl rfl (aw_in_ok g_36) rfl h_36 xd_R_procedure_36 ?_
      refine aw_aload_n C 1 xd_R_procedure_37 rfl rfl ?_
      refine aw_get C 0 (by decide) rfl rfl (fun w h => List.mem_cons_of_mem _ (xi_R w h)) 4 (by decide) rfl (List.mem_cons_of_mem _ fl_R_22) xd_R_procedure_38 ?_
      refine aw_bipush (v := (36 : Int32)) C xd_R_procedure_41 (by decide) ?_
      refine aw_iload_n C 0 xd_R_procedure_43 rfl rfl ?_
      refine aw_iadd C xd_R_procedure_44 ?_
      refine aw_iconst (v := (0 : Int32)) C xd_R_procedure_45 (by decide) ?_
      obtain ⟨g_46, hm⟩ := aw_grd hm
      obtain ⟨s_46, h_46, hm⟩ := aw_let hm
      refine aw_iast (σ1 := s_46) (g := upd (s_36 5) (Int32.toNatClampNeg ((36 : Int32) + (σ 3 (Int32.toNatClampNeg (12 : Int32))))) (0 : Int32)) C 5 (by decide) 0 rfl rfl (aw_in_ok g_46) rfl h_46 xd_R_procedure_46 ?_
      refine aw_aload_n C 1 xd_R_procedure_47 rfl rfl ?_
      refine aw_get C 0 (by decide) rfl rfl (fun w h => List.mem_cons_of_mem _ (xi_R w h)) 2 (by decide) rfl (List.mem_cons_of_mem _ fl_R_16) xd_R_procedure_48 ?_
      refine aw_bipush (v := (12 : Int32)) C xd_R_procedure_51 (by decide) ?_
      refine aw_dup2 C xd_R_procedure_53 rfl rfl ?_
      refine aw_iald C 3 (by decide) 0 rfl rfl (aw_in_ok rfl) xd_R_procedure_54 ?_
      refine aw_iconst (v := (1 : Int32)) C xd_R_procedure_55 (by decide) ?_
      refine aw_iadd C xd_R_procedure_56 ?_
      obtain ⟨s_57, h_57, hm⟩ := aw_let hm
      refine aw_iast (σ1 := s_57) (g := upd (s_46 3) (Int32.toNatClampNeg (12 : Int32)) ((s_46 3 (Int32.toNatClampNeg (12 : Int32))) + (1 : Int32))) C 3 (by decide) 0 rfl rfl (aw_in_ok rfl) rfl h_57 xd_R_procedure_57 ?_
      refine aw_iload_n C 0 xd_R_procedure_58 rfl rfl ?_
      cases hm
      exact aw_iret C xd_R_procedure_59
    · rw [if_pos c_21] at hm
      refine aw_bipush (v := (-2 : Int32)) C xd_R_procedure_24 (by decide) ?_
      cases hm
      exact aw_iret C xd_R_procedure_26
  · rw [if_pos c_6] at hm
    refine aw_iconst (v := (-1 : Int32)) C xd_R_procedure_9 (by decide) ?_
    cases hm
    exact aw_iret C xd_R_procedure_10
def xm_R_token (σ : aw_m) (a1 : Int32) (a2 : Int32) (a3 : Int32) : Option (Int32 × aw_m) := (xm_R_in σ a1 (0 : Int32) (11 : Int32)).bind fun q_4 => (if q_4 = 0 then some ((-1 : Int32), σ) else (if σ 3 (Int32.toNatClampNeg (12 : Int32)) = 0 then some ((-1 : Int32), σ) else if aw_in (((36 : Int32) + (σ 3 (Int32.toNatClampNeg (12 : Int32)))) - (1 : Int32)) 39 = true then (if σ 5 (Int32.toNatClampNeg (((36 : Int32) + (σ 3 (Int32.toNatClampNeg (12 : Int32)))) - (1 : Int32))) = (14 : Int32) then some ((-2 : Int32), σ) else if aw_in (((36 : Int32) + (σ 3 (Int32.toNatClampNeg (12 : Int32)))) - (1 : Int32)) 39 = true then if aw_in (((14 : Int32) * (((36 : Int32) + (σ 3 (Int32.toNatClampNeg (12 : Int32)))) - (1 : Int32))) + (σ 5 (Int32.toNatClampNeg (((36 : Int32) + (σ 3 (Int32.toNatClampNeg (12 : Int32)))) - (1 : Int32))))) 546 = true then aw_l (aw_p σ 6 (Int32.toNatClampNeg (((14 : Int32) * (((36 : Int32) + (σ 3 (Int32.toNatClampNeg (12 : Int32)))) - (1 : Int32))) + (σ 5 (Int32.toNatClampNeg (((36 : Int32) + (σ 3 (Int32.toNatClampNeg (12 : Int32)))) - (1 : Int32)))))) a1) fun s_73 => if aw_in (((14 : Int32) * (((36 : Int32) + (σ 3 (Int32.toNatClampNeg (12 : Int32)))) - (1 : Int32))) + (σ 5 (Int32.toNatClampNeg (((36 : Int32) + (σ 3 (Int32.toNatClampNeg (12 : Int32)))) - (1 : Int32))))) 546 = true then aw_l (aw_p s_73 7 (Int32.toNatClampNeg (((14 : Int32) * (((36 : Int32) + (σ 3 (Int32.toNatClampNeg (12 : Int32)))) - (1 : Int32))) + (σ 5 (Int32.toNatClampNeg (((36 : Int32) + (σ 3 (Int32.toNatClampNeg (12 : Int32)))) - (1 : Int32)))))) a2) fun s_81 => if aw_in (((14 : Int32) * (((36 : Int32) + (σ 3 (Int32.toNatClampNeg (12 : Int32)))) - (1 : Int32))) + (σ 5 (Int32.toNatClampNeg (((36 : Int32) + (σ 3 (Int32.toNatClampNeg (12 : Int32)))) - (1 : Int32))))) 546 = true then aw_l (aw_p s_81 8 (Int32.toNatClampNeg (((14 : Int32) * (((36 : Int32) + (σ 3 (Int32.toNatClampNeg (12 : Int32)))) - (1 : Int32))) + (σ 5 (Int32.toNatClampNeg (((36 : Int32) + (σ 3 (Int32.toNatClampNeg (12 : Int32)))) - (1 : Int32)))))) a3) fun s_89 => if aw_in (((36 : Int32) + (σ 3 (Int32.toNatClampNeg (12 : Int32)))) - (1 : Int32)) 39 = true then if aw_in (((36 : Int32) + (σ 3 (Int32.toNatClampNeg (12 : Int32)))) - (1 : Int32)) 39 = true then aw_l (aw_p s_89 5 (Int32.toNatClampNeg (((36 : Int32) + (σ 3 (Int32.toNatClampNeg (12 : Int32)))) - (1 : Int32))) ((s_89 5 (Int32.toNatClampNeg (((36 : Int32) + (σ 3 (Int32.toNatClampNeg (12 : Int32)))) - (1 : Int32)))) + (1 : Int32))) fun s_100 => if aw_in (((36 : Int32) + (σ 3 (Int32.toNatClampNeg (12 : Int32)))) - (1 : Int32)) 39 = true then some (s_100 5 (Int32.toNatClampNeg (((36 : Int32) + (σ 3 (Int32.toNatClampNeg (12 : Int32)))) - (1 : Int32))), s_100) else none else none else none else none else none else none else none) else none))
set_option maxHeartbeats 4000000 in
set_option maxRecDepth 100000 in
theorem xc_R_token (σ : aw_m) (a1 : Int32) (a2 : Int32) (a3 : Int32) (q : Int32 × aw_m)  (hm : xm_R_token σ a1 a2 a3 = some q) : aw_M l D (ty_z ids) (zs_T ps) xy_R_token (xw_R_token :: gw_l) (rm_D (1)) [.ref (ad 0), .int a1, .int a2, .int a3] (rw_w ad ids σ) (some (.int q.1)) (rw_w ad ids q.2) := by
  refine aw_intro (cc := xb_R_token) (n := 6) (ret := (some .int)) "ModuleShelfModel" rfl (by decide) rfl (Nat.le_of_ble_eq_true rfl) ?_
  intro κ C
  unfold xm_R_token at hm
  refine aw_iload_n C 1 xd_R_token_0 rfl rfl ?_
  refine aw_iconst (v := (0 : Int32)) C xd_R_token_1 (by decide) ?_
  refine aw_bipush (v := (11 : Int32)) C xd_R_token_2 (by decide) ?_
  obtain ⟨q_4, e_4, hm⟩ := aw_bnd hm
  refine aw_callSi (As := [.int a1, .int (0 : Int32), .int (11 : Int32)]) (rest := []) C (xc_R_in σ a1 (0 : Int32) (11 : Int32) _  e_4) rfl (gw_sub (gw_S xg_R_in ml_R_83 st_R_in wi_R)) na_R_in (rm_lt (by decide) (by decide)) ⟨Nat.zero_le _, Nat.zero_le _⟩ rfl (Nat.le_of_ble_eq_true rfl) xd_R_token_4 ?_
  refine aw_if_eq (tgt := 20) C xd_R_token_7 (by decide) (fun c_7 => ?_) (fun c_7 => ?_)
  · rw [if_pos c_7] at hm
    refine aw_iconst (v := (-1 : Int32)) C xd_R_token_20 (by decide) ?_
    cases hm
    exact aw_iret C xd_R_token_21
  · rw [if_neg c_7] at hm
    refine aw_aload_n C 0 xd_R_token_10 rfl rfl ?_
    refine aw_get C 0 (by decide) rfl rfl (fun w h => List.mem_cons_of_mem _ (xi_R w h)) 2 (by decide) rfl (List.mem_cons_of_mem _ fl_R_16) xd_R_token_11 ?_
    refine aw_bipush (v := (12 : Int32)) C xd_R_token_14 (by decide) ?_
    refine aw_iald C 3 (by decide) 0 rfl rfl (aw_in_ok rfl) xd_R_token_16 ?_
    refine aw_if_ne (tgt := 22) C xd_R_token_17 (by decide) (fun c_17 => ?_) (fun c_17 => ?_)
    · rw [if_neg c_17] at hm
      refine aw_bipush (v := (36 : Int32)) C xd_R_token_22 (by decide) ?_
      refine aw_aload_n C 0 xd_R_token_24 rfl rfl ?_
      refine aw_get C 0 (by decide) rfl rfl (fun w h => List.mem_cons_of_mem _ (xi_R w h)) 2 (by decide) rfl (List.mem_cons_of_mem _ fl_R_16) xd_R_token_25 ?_
      refine aw_bipush (v := (12 : Int32)) C xd_R_token_28 (by decide) ?_
      refine aw_iald C 3 (by decide) 0 rfl rfl (aw_in_ok rfl) xd_R_token_30 ?_
      refine aw_iadd C xd_R_token_31 ?_
      refine aw_iconst (v := (1 : Int32)) C xd_R_token_32 (by decide) ?_
      refine aw_isub C xd_R_token_33 ?_
      refine aw_istore (L' := [(4, .int (((36 : Int32) + (σ 3 (Int32.toNatClampNeg (12 : Int32)))) - (1 : Int32))), (0, .ref (ad 0)), (1, .int a1), (2, .int a2), (3, .int a3)]) C xd_R_token_34 (by decide) rfl ?_
      refine aw_aload_n C 1 xd_R_token_36 rfl rfl ?_
      refine aw_get C 0 (by decide) rfl rfl (fun w h => List.mem_cons_of_mem _ (xi_R w h)) 4 (by decide) rfl (List.mem_cons_of_mem _ fl_R_22) xd_R_token_37 ?_
      refine aw_iload C 0 xd_R_token_40 rfl ?_
      obtain ⟨g_42, hm⟩ := aw_grd hm
      refine aw_iald C 5 (by decide) 0 rfl rfl (aw_in_ok g_42) xd_R_token_42 ?_
      refine aw_bipush (v := (14 : Int32)) C xd_R_token_43 (by decide) ?_
      refine aw_icmp_ne (tgt := 51) C xd_R_token_45 (by decide) (fun c_45 => ?_) (fun c_45 => ?_)
      · rw [if_neg c_45] at hm
        refine aw_bipush (v := (14 : Int32)) C xd_R_token_51 (by decide) ?_
        refine aw_iload C 0 xd_R_token_53 rfl ?_
        refine aw_imul C xd_R_token_55 ?_
        refine aw_aload_n C 1 xd_R_token_56 rfl rfl ?_
        refine aw_get C 0 (by decide) rfl rfl (fun w h => List.mem_cons_of_mem _ (xi_R w h)) 4 (by decide) rfl (List.mem_cons_of_mem _ fl_R_22) xd_R_token_57 ?_
        refine aw_iload C 0 xd_R_token_60 rfl ?_
        obtain ⟨g_62, hm⟩ := aw_grd hm
        refine aw_iald C 5 (by decide) 0 rfl rfl (aw_in_ok g_62) xd_R_token_62 ?_
        refine aw_iadd C xd_R_token_63 ?_
        refine aw_istore (L' := [(5, .int (((14 : Int32) * (((36 : Int32) + (σ 3 (Int32.toNatClampNeg (12 : Int32)))) - (1 : Int32))) + (σ 5 (Int32.toNatClampNeg (((36 : Int32) + (σ 3 (Int32.toNatClampNeg (12 : Int32)))) - (1 : Int32)))))), (4, .int (((36 : Int32) + (σ 3 (Int32.toNatClampNeg (12 : Int32)))) - (1 : Int32))), (0, .ref (ad 0)), (1, .int a1), (2, .int a2), (3, .int a3)]) C xd_R_token_64 (by decide) rfl ?_
        refine aw_aload_n C 2 xd_R_token_66 rfl rfl ?_
        refine aw_get C 0 (by decide) rfl rfl (fun w h => List.mem_cons_of_mem _ (xi_R w h)) 5 (by decide) rfl (List.mem_cons_of_mem _ fl_R_25) xd_R_token_67 ?_
        refine aw_iload C 0 xd_R_token_70 rfl ?_
        refine aw_iload_n C 3 xd_R_token_72 rfl rfl ?_
        obtain ⟨g_73, hm⟩ := aw_grd hm
        obtain ⟨s_73, h_73, hm⟩ := aw_let hm
        refine aw_iast (σ1 := s_73) (g := upd (σ 6) (Int32.toNatClampNeg (((14 : Int32) * (((36 : Int32) + (σ 3 (Int32.toNatClampNeg (12 : Int32)))) - (1 : Int32))) + (σ 5 (Int32.toNatClampNeg (((36 : Int32) + (σ 3 (Int32.toNatClampNeg (12 : Int32)))) - (1 : Int32)))))) a1) C 6 (by decide) 0 rfl rfl (aw_in_ok g_73) rfl h_73 xd_R_token_73 ?_
        refine aw_aload_n C 2 xd_R_token_74 rfl rfl ?_
        refine aw_get C 0 (by decide) rfl rfl (fun w h => List.mem_cons_of_mem _ (xi_R w h)) 6 (by decide) rfl (List.mem_cons_of_mem _ fl_R_28) xd_R_token_75 ?_
        refine aw_iload C 0 xd_R_token_78 rfl ?_
        refine aw_iload_n C 4 xd_R_token_80 rfl rfl ?_
        obtain ⟨g_81, hm⟩ := aw_grd hm
        obtain ⟨s_81, h_81, hm⟩ := aw_let hm
        refine aw_iast (σ1 := s_81) (g := upd (s_73 7) (Int32.toNatClampNeg (((14 : Int32) * (((36 : Int32) + (σ 3 (Int32.toNatClampNeg (12 : Int32)))) - (1 : Int32))) + (σ 5 (Int32.toNatClampNeg (((36 : Int32) + (σ 3 (Int32.toNatClampNeg (12 : Int32)))) - (1 : Int32)))))) a2) C 7 (by decide) 0 rfl rfl (aw_in_ok g_81) rfl h_81 xd_R_token_81 ?_
        refine aw_aload_n C 2 xd_R_token_82 rfl rfl ?_
        refine aw_get C 0 (by decide) rfl rfl (fun w h => List.mem_cons_of_mem _ (xi_R w h)) 7 (by decide) rfl (List.mem_cons_of_mem _ fl_R_31) xd_R_token_83 ?_
        refine aw_iload C 0 xd_R_token_86 rfl ?_
        refine aw_iload_n C 5 xd_R_token_88 rfl rfl ?_
        obtain ⟨g_89, hm⟩ := aw_grd hm
        obtain ⟨s_89, h_89, hm⟩ := aw_let hm
        refine aw_iast (σ1 := s_89) (g := upd (s_81 8) (Int32.toNatClampNeg (((14 : Int32) * (((36 : Int32) + (σ 3 (Int32.toNatClampNeg (12 : Int32)))) - (1 : Int32))) + (σ 5 (Int32.toNatClampNeg (((36 : Int32) + (σ 3 (Int32.toNatClampNeg (12 : Int32)))) - (1 : Int32)))))) a3) C 8 (by decide) 0 rfl rfl (aw_in_ok g_89) rfl h_89 xd_R_token_89 ?_
        refine aw_aload_n C 2 xd_R_token_90 rfl rfl ?_
        refine aw_get C 0 (by decide) rfl rfl (fun w h => List.mem_cons_of_mem _ (xi_R w h)) 4 (by decide) rfl (List.mem_cons_of_mem _ fl_R_22) xd_R_token_91 ?_
        refine aw_iload C 1 xd_R_token_94 rfl ?_
        refine aw_dup2 C xd_R_token_96 rfl rfl ?_
        obtain ⟨g_97, hm⟩ := aw_grd hm
        refine aw_iald C 5 (by decide) 0 rfl rfl (aw_in_ok g_97) xd_R_token_97 ?_
        refine aw_iconst (v := (1 : Int32)) C xd_R_token_98 (by decide) ?_
        refine aw_iadd C xd_R_token_99 ?_
        obtain ⟨g_100, hm⟩ := aw_grd hm
        obtain ⟨s_100, h_100, hm⟩ := aw_let hm
        refine aw_iast (σ1 := s_100) (g := upd (s_89 5) (Int32.toNatClampNeg (((36 : Int32) + (σ 3 (Int32.toNatClampNeg (12 : Int32)))) - (1 : Int32))) ((s_89 5 (Int32.toNatClampNeg (((36 : Int32) + (σ 3 (Int32.toNatClampNeg (12 : Int32)))) - (1 : Int32)))) + (1 : Int32))) C 5 (by decide) 0 rfl rfl (aw_in_ok g_100) rfl h_100 xd_R_token_100 ?_
        refine aw_aload_n C 2 xd_R_token_101 rfl rfl ?_
        refine aw_get C 0 (by decide) rfl rfl (fun w h => List.mem_cons_of_mem _ (xi_R w h)) 4 (by decide) rfl (List.mem_cons_of_mem _ fl_R_22) xd_R_token_102 ?_
        refine aw_iload C 1 xd_R_token_105 rfl ?_
        obtain ⟨g_107, hm⟩ := aw_grd hm
        refine aw_iald C 5 (by decide) 0 rfl rfl (aw_in_ok g_107) xd_R_token_107 ?_
        cases hm
        exact aw_iret C xd_R_token_108
      · rw [if_pos c_45] at hm
        refine aw_bipush (v := (-2 : Int32)) C xd_R_token_48 (by decide) ?_
        cases hm
        exact aw_iret C xd_R_token_50
    · rw [if_pos c_17] at hm
      refine aw_iconst (v := (-1 : Int32)) C xd_R_token_20 (by decide) ?_
      cases hm
      exact aw_iret C xd_R_token_21
def xm_R_seen (σ : aw_m) (a1 : Int32) (a2 : Int32) : Option Int32 := (if a1 = a2 then some (12 : Int32) else (xm_R_in σ a1 (0 : Int32) (5 : Int32)).bind fun q_11 => (if q_11 = 0 then some (-1 : Int32) else if aw_in a1 13 = true then (if σ 1 (Int32.toNatClampNeg a1) ≤ 0 then some (-1 : Int32) else some a1) else none))
set_option maxHeartbeats 4000000 in
set_option maxRecDepth 100000 in
theorem xc_R_seen (σ : aw_m) (a1 : Int32) (a2 : Int32) (q : Int32)  (hm : xm_R_seen σ a1 a2 = some q) : aw_M l D (ty_z ids) (zs_T ps) xy_R_seen (xw_R_seen :: gw_l) (rm_D (1)) [.ref (ad 0), .int a1, .int a2] (rw_w ad ids σ) (some (.int q)) (rw_w ad ids σ) := by
  refine aw_intro (cc := xb_R_seen) (n := 3) (ret := (some .int)) "ModuleShelfModel" rfl (by decide) rfl (Nat.le_of_ble_eq_true rfl) ?_
  intro κ C
  unfold xm_R_seen at hm
  refine aw_iload_n C 1 xd_R_seen_0 rfl rfl ?_
  refine aw_iload_n C 2 xd_R_seen_1 rfl rfl ?_
  refine aw_icmp_ne (tgt := 8) C xd_R_seen_2 (by decide) (fun c_2 => ?_) (fun c_2 => ?_)
  · rw [if_neg c_2] at hm
    refine aw_iload_n C 1 xd_R_seen_8 rfl rfl ?_
    refine aw_iconst (v := (0 : Int32)) C xd_R_seen_9 (by decide) ?_
    refine aw_iconst (v := (5 : Int32)) C xd_R_seen_10 (by decide) ?_
    obtain ⟨q_11, e_11, hm⟩ := aw_bnd hm
    refine aw_callSi (As := [.int a1, .int (0 : Int32), .int (5 : Int32)]) (rest := []) C (xc_R_in σ a1 (0 : Int32) (5 : Int32) _  e_11) rfl (gw_sub (gw_S xg_R_in ml_R_83 st_R_in wi_R)) na_R_in (rm_lt (by decide) (by decide)) ⟨Nat.zero_le _, Nat.zero_le _⟩ rfl (Nat.le_of_ble_eq_true rfl) xd_R_seen_11 ?_
    refine aw_if_eq (tgt := 30) C xd_R_seen_14 (by decide) (fun c_14 => ?_) (fun c_14 => ?_)
    · rw [if_pos c_14] at hm
      refine aw_iconst (v := (-1 : Int32)) C xd_R_seen_30 (by decide) ?_
      cases hm
      exact aw_iret C xd_R_seen_31
    · rw [if_neg c_14] at hm
      refine aw_aload_n C 0 xd_R_seen_17 rfl rfl ?_
      refine aw_get C 0 (by decide) rfl rfl (fun w h => List.mem_cons_of_mem _ (xi_R w h)) 0 (by decide) rfl (List.mem_cons_of_mem _ fl_R_7) xd_R_seen_18 ?_
      refine aw_iload_n C 1 xd_R_seen_21 rfl rfl ?_
      obtain ⟨g_22, hm⟩ := aw_grd hm
      refine aw_iald C 1 (by decide) 0 rfl rfl (aw_in_ok g_22) xd_R_seen_22 ?_
      refine aw_if_le (tgt := 30) C xd_R_seen_23 (by decide) (fun c_23 => ?_) (fun c_23 => ?_)
      · rw [if_pos c_23] at hm
        refine aw_iconst (v := (-1 : Int32)) C xd_R_seen_30 (by decide) ?_
        cases hm
        exact aw_iret C xd_R_seen_31
      · rw [if_neg c_23] at hm
        refine aw_iload_n C 1 xd_R_seen_26 rfl rfl ?_
        refine aw_goto (tgt := 31) C xd_R_seen_27 (by decide) ?_
        cases hm
        exact aw_iret C xd_R_seen_31
  · rw [if_pos c_2] at hm
    refine aw_bipush (v := (12 : Int32)) C xd_R_seen_5 (by decide) ?_
    cases hm
    exact aw_iret C xd_R_seen_7
def xm_R_partsOf (σ : aw_m) (a1 : Int32) (a2 : Int32) (a3 : Int32) : Option Int32 := if aw_in a1 546 = true then (xm_R_seen σ (σ 7 (Int32.toNatClampNeg a1)) a3).bind fun q_12 => if aw_in a1 546 = true then (if σ 6 (Int32.toNatClampNeg a1) = (0 : Int32) then some (0 : Int32) else (if σ 6 (Int32.toNatClampNeg a1) = (1 : Int32) then if aw_in a2 39 = true then (xm_R_in σ (σ 7 (Int32.toNatClampNeg a1)) (0 : Int32) ((σ 4 (Int32.toNatClampNeg a2)) - (1 : Int32))).bind fun q_97 => (if q_97 = 0 then some (-1 : Int32) else some (0 : Int32)) else none else (if σ 6 (Int32.toNatClampNeg a1) = (2 : Int32) then (if q_12 < 0 then some (-1 : Int32) else if aw_in a1 546 = true then if aw_in q_12 13 = true then (xm_R_in σ (σ 8 (Int32.toNatClampNeg a1)) (0 : Int32) ((σ 2 (Int32.toNatClampNeg q_12)) - (1 : Int32))).bind fun q_130 => (if q_130 = 0 then some (-1 : Int32) else some (0 : Int32)) else none else none) else (if σ 6 (Int32.toNatClampNeg a1) = (3 : Int32) then if aw_in a1 546 = true then (xm_R_in σ (σ 8 (Int32.toNatClampNeg a1)) (0 : Int32) ((σ 2 (Int32.toNatClampNeg (12 : Int32))) - (1 : Int32))).bind fun q_158 => (if q_158 = 0 then some (-1 : Int32) else some (1 : Int32)) else none else (if σ 6 (Int32.toNatClampNeg a1) = (4 : Int32) then some (2 : Int32) else (if σ 6 (Int32.toNatClampNeg a1) = (5 : Int32) then some (2 : Int32) else (if σ 6 (Int32.toNatClampNeg a1) = (6 : Int32) then some (2 : Int32) else (if σ 6 (Int32.toNatClampNeg a1) = (7 : Int32) then some (2 : Int32) else (if σ 6 (Int32.toNatClampNeg a1) = (8 : Int32) then some (2 : Int32) else (if σ 6 (Int32.toNatClampNeg a1) = (9 : Int32) then some (3 : Int32) else (if σ 6 (Int32.toNatClampNeg a1) = (10 : Int32) then some (2 : Int32) else (if σ 6 (Int32.toNatClampNeg a1) = (11 : Int32) then (if q_12 < 0 then some (-1 : Int32) else if aw_in a1 546 = true then if aw_in q_12 13 = true then (xm_R_in σ (σ 8 (Int32.toNatClampNeg a1)) (0 : Int32) ((σ 3 (Int32.toNatClampNeg q_12)) - (1 : Int32))).bind fun q_193 => (if q_193 = 0 then some (-1 : Int32) else if aw_in a1 546 = true then if aw_in (((3 : Int32) * q_12) + (σ 8 (Int32.toNatClampNeg a1))) 39 = true then some (σ 4 (Int32.toNatClampNeg (((3 : Int32) * q_12) + (σ 8 (Int32.toNatClampNeg a1))))) else none else none) else none else none) else some (2 : Int32))))))))))))) else none else none
set_option maxHeartbeats 4000000 in
set_option maxRecDepth 100000 in
theorem xc_R_partsOf (σ : aw_m) (a1 : Int32) (a2 : Int32) (a3 : Int32) (q : Int32)  (hm : xm_R_partsOf σ a1 a2 a3 = some q) : aw_M l D (ty_z ids) (zs_T ps) xy_R_partsOf (xw_R_partsOf :: gw_l) (rm_D (2)) [.ref (ad 0), .int a1, .int a2, .int a3] (rw_w ad ids σ) (some (.int q)) (rw_w ad ids σ) := by
  refine aw_intro (cc := xb_R_partsOf) (n := 6) (ret := (some .int)) "ModuleShelfModel" rfl (by decide) rfl (Nat.le_of_ble_eq_true rfl) ?_
  intro κ C
  unfold xm_R_partsOf at hm
  refine aw_aload_n C 0 xd_R_partsOf_0 rfl rfl ?_
  refine aw_get C 0 (by decide) rfl rfl (fun w h => List.mem_cons_of_mem _ (xi_R w h)) 6 (by decide) rfl (List.mem_cons_of_mem _ fl_R_28) xd_R_partsOf_1 ?_
  refine aw_iload_n C 1 xd_R_partsOf_4 rfl rfl ?_
  obtain ⟨g_5, hm⟩ := aw_grd hm
  refine aw_iald C 7 (by decide) 0 rfl rfl (aw_in_ok g_5) xd_R_partsOf_5 ?_
  refine aw_istore (L' := [(4, .int (σ 7 (Int32.toNatClampNeg a1))), (0, .ref (ad 0)), (1, .int a1), (2, .int a2), (3, .int a3)]) C xd_R_partsOf_6 (by decide) rfl ?_
  refine aw_aload_n C 1 xd_R_partsOf_8 rfl rfl ?_
  refine aw_iload C 0 xd_R_partsOf_9 rfl ?_
  refine aw_iload_n C 4 xd_R_partsOf_11 rfl rfl ?_
  obtain ⟨q_12, e_12, hm⟩ := aw_bnd hm
  refine aw_callVi (As := [.int (σ 7 (Int32.toNatClampNeg a1)), .int a3]) (rest := []) (b := ad 0) C (xc_R_seen σ (σ 7 (Int32.toNatClampNeg a1)) a3 _  e_12) rfl (gw_sub (gw_V xg_R_seen ml_R_87 im_R_seen se_R_seen wi_R)) na_R_seen (rm_lt (by decide) (by decide)) ⟨Nat.zero_le _, Nat.zero_le _⟩ 0 at_R rfl rfl (Nat.le_of_ble_eq_true rfl) xd_R_partsOf_12 ?_
  refine aw_istore (L' := [(5, .int q_12), (4, .int (σ 7 (Int32.toNatClampNeg a1))), (0, .ref (ad 0)), (1, .int a1), (2, .int a2), (3, .int a3)]) C xd_R_partsOf_15 (by decide) rfl ?_
  refine aw_aload_n C 2 xd_R_partsOf_17 rfl rfl ?_
  refine aw_get C 0 (by decide) rfl rfl (fun w h => List.mem_cons_of_mem _ (xi_R w h)) 5 (by decide) rfl (List.mem_cons_of_mem _ fl_R_25) xd_R_partsOf_18 ?_
  refine aw_iload_n C 3 xd_R_partsOf_21 rfl rfl ?_
  obtain ⟨g_22, hm⟩ := aw_grd hm
  refine aw_iald C 6 (by decide) 0 rfl rfl (aw_in_ok g_22) xd_R_partsOf_22 ?_
  by_cases c_23_0 : σ 6 (Int32.toNatClampNeg a1) = (0 : Int32)
  · rw [if_pos c_23_0] at hm
    refine aw_tabIn (off := 61) (tgt := 84) C xd_R_partsOf_23 (by rw [c_23_0]; decide) (by rw [c_23_0]; decide) (by rw [c_23_0]; rfl) (by decide) ?_
    refine aw_iconst (v := (0 : Int32)) C xd_R_partsOf_84 (by decide) ?_
    cases hm
    exact aw_iret C xd_R_partsOf_85
  rw [if_neg c_23_0] at hm
  by_cases c_23_1 : σ 6 (Int32.toNatClampNeg a1) = (1 : Int32)
  · rw [if_pos c_23_1] at hm
    refine aw_tabIn (off := 63) (tgt := 86) C xd_R_partsOf_23 (by rw [c_23_1]; decide) (by rw [c_23_1]; decide) (by rw [c_23_1]; rfl) (by decide) ?_
    refine aw_iload C 1 xd_R_partsOf_86 rfl ?_
    refine aw_iconst (v := (0 : Int32)) C xd_R_partsOf_88 (by decide) ?_
    refine aw_aload_n C 2 xd_R_partsOf_89 rfl rfl ?_
    refine aw_get C 0 (by decide) rfl rfl (fun w h => List.mem_cons_of_mem _ (xi_R w h)) 3 (by decide) rfl (List.mem_cons_of_mem _ fl_R_19) xd_R_partsOf_90 ?_
    refine aw_iload_n C 4 xd_R_partsOf_93 rfl rfl ?_
    obtain ⟨g_94, hm⟩ := aw_grd hm
    refine aw_iald C 4 (by decide) 0 rfl rfl (aw_in_ok g_94) xd_R_partsOf_94 ?_
    refine aw_iconst (v := (1 : Int32)) C xd_R_partsOf_95 (by decide) ?_
    refine aw_isub C xd_R_partsOf_96 ?_
    obtain ⟨q_97, e_97, hm⟩ := aw_bnd hm
    refine aw_callSi (As := [.int (σ 7 (Int32.toNatClampNeg a1)), .int (0 : Int32), .int ((σ 4 (Int32.toNatClampNeg a2)) - (1 : Int32))]) (rest := []) C (xc_R_in σ (σ 7 (Int32.toNatClampNeg a1)) (0 : Int32) ((σ 4 (Int32.toNatClampNeg a2)) - (1 : Int32)) _  e_97) rfl (gw_sub (gw_S xg_R_in ml_R_83 st_R_in wi_R)) na_R_in (rm_lt (by decide) (by decide)) ⟨Nat.zero_le _, Nat.zero_le _⟩ rfl (Nat.le_of_ble_eq_true rfl) xd_R_partsOf_97 ?_
    refine aw_if_eq (tgt := 107) C xd_R_partsOf_100 (by decide) (fun c_100 => ?_) (fun c_100 => ?_)
    · rw [if_pos c_100] at hm
      refine aw_iconst (v := (-1 : Int32)) C xd_R_partsOf_107 (by decide) ?_
      cases hm
      exact aw_iret C xd_R_partsOf_108
    · rw [if_neg c_100] at hm
      refine aw_iconst (v := (0 : Int32)) C xd_R_partsOf_103 (by decide) ?_
      refine aw_goto (tgt := 108) C xd_R_partsOf_104 (by decide) ?_
      cases hm
      exact aw_iret C xd_R_partsOf_108
  rw [if_neg c_23_1] at hm
  by_cases c_23_2 : σ 6 (Int32.toNatClampNeg a1) = (2 : Int32)
  · rw [if_pos c_23_2] at hm
    refine aw_tabIn (off := 86) (tgt := 109) C xd_R_partsOf_23 (by rw [c_23_2]; decide) (by rw [c_23_2]; decide) (by rw [c_23_2]; rfl) (by decide) ?_
    refine aw_iload C 0 xd_R_partsOf_109 rfl ?_
    refine aw_if_lt (tgt := 140) C xd_R_partsOf_111 (by decide) (fun c_111 => ?_) (fun c_111 => ?_)
    · rw [if_pos c_111] at hm
      refine aw_iconst (v := (-1 : Int32)) C xd_R_partsOf_140 (by decide) ?_
      cases hm
      exact aw_iret C xd_R_partsOf_141
    · rw [if_neg c_111] at hm
      refine aw_aload_n C 2 xd_R_partsOf_114 rfl rfl ?_
      refine aw_get C 0 (by decide) rfl rfl (fun w h => List.mem_cons_of_mem _ (xi_R w h)) 7 (by decide) rfl (List.mem_cons_of_mem _ fl_R_31) xd_R_partsOf_115 ?_
      refine aw_iload_n C 3 xd_R_partsOf_118 rfl rfl ?_
      obtain ⟨g_119, hm⟩ := aw_grd hm
      refine aw_iald C 8 (by decide) 0 rfl rfl (aw_in_ok g_119) xd_R_partsOf_119 ?_
      refine aw_iconst (v := (0 : Int32)) C xd_R_partsOf_120 (by decide) ?_
      refine aw_aload_n C 2 xd_R_partsOf_121 rfl rfl ?_
      refine aw_get C 0 (by decide) rfl rfl (fun w h => List.mem_cons_of_mem _ (xi_R w h)) 1 (by decide) rfl (List.mem_cons_of_mem _ fl_R_13) xd_R_partsOf_122 ?_
      refine aw_iload C 0 xd_R_partsOf_125 rfl ?_
      obtain ⟨g_127, hm⟩ := aw_grd hm
      refine aw_iald C 2 (by decide) 0 rfl rfl (aw_in_ok g_127) xd_R_partsOf_127 ?_
      refine aw_iconst (v := (1 : Int32)) C xd_R_partsOf_128 (by decide) ?_
      refine aw_isub C xd_R_partsOf_129 ?_
      obtain ⟨q_130, e_130, hm⟩ := aw_bnd hm
      refine aw_callSi (As := [.int (σ 8 (Int32.toNatClampNeg a1)), .int (0 : Int32), .int ((σ 2 (Int32.toNatClampNeg q_12)) - (1 : Int32))]) (rest := []) C (xc_R_in σ (σ 8 (Int32.toNatClampNeg a1)) (0 : Int32) ((σ 2 (Int32.toNatClampNeg q_12)) - (1 : Int32)) _  e_130) rfl (gw_sub (gw_S xg_R_in ml_R_83 st_R_in wi_R)) na_R_in (rm_lt (by decide) (by decide)) ⟨Nat.zero_le _, Nat.zero_le _⟩ rfl (Nat.le_of_ble_eq_true rfl) xd_R_partsOf_130 ?_
      refine aw_if_eq (tgt := 140) C xd_R_partsOf_133 (by decide) (fun c_133 => ?_) (fun c_133 => ?_)
      · rw [if_pos c_133] at hm
        refine aw_iconst (v := (-1 : Int32)) C xd_R_partsOf_140 (by decide) ?_
        cases hm
        exact aw_iret C xd_R_partsOf_141
      · rw [if_neg c_133] at hm
        refine aw_iconst (v := (0 : Int32)) C xd_R_partsOf_136 (by decide) ?_
        refine aw_goto (tgt := 141) C xd_R_partsOf_137 (by decide) ?_
        cases hm
        exact aw_iret C xd_R_partsOf_141
  rw [if_neg c_23_2] at hm
  by_cases c_23_3 : σ 6 (Int32.toNatClampNeg a1) = (3 : Int32)
  · rw [if_pos c_23_3] at hm
    refine aw_tabIn (off := 119) (tgt := 142) C xd_R_partsOf_23 (by rw [c_23_3]; decide) (by rw [c_23_3]; decide) (by rw [c_23_3]; rfl) (by decide) ?_
    refine aw_aload_n C 2 xd_R_partsOf_142 rfl rfl ?_
    refine aw_get C 0 (by decide) rfl rfl (fun w h => List.mem_cons_of_mem _ (xi_R w h)) 7 (by decide) rfl (List.mem_cons_of_mem _ fl_R_31) xd_R_partsOf_143 ?_
    refine aw_iload_n C 3 xd_R_partsOf_146 rfl rfl ?_
    obtain ⟨g_147, hm⟩ := aw_grd hm
    refine aw_iald C 8 (by decide) 0 rfl rfl (aw_in_ok g_147) xd_R_partsOf_147 ?_
    refine aw_iconst (v := (0 : Int32)) C xd_R_partsOf_148 (by decide) ?_
    refine aw_aload_n C 2 xd_R_partsOf_149 rfl rfl ?_
    refine aw_get C 0 (by decide) rfl rfl (fun w h => List.mem_cons_of_mem _ (xi_R w h)) 1 (by decide) rfl (List.mem_cons_of_mem _ fl_R_13) xd_R_partsOf_150 ?_
    refine aw_bipush (v := (12 : Int32)) C xd_R_partsOf_153 (by decide) ?_
    refine aw_iald C 2 (by decide) 0 rfl rfl (aw_in_ok rfl) xd_R_partsOf_155 ?_
    refine aw_iconst (v := (1 : Int32)) C xd_R_partsOf_156 (by decide) ?_
    refine aw_isub C xd_R_partsOf_157 ?_
    obtain ⟨q_158, e_158, hm⟩ := aw_bnd hm
    refine aw_callSi (As := [.int (σ 8 (Int32.toNatClampNeg a1)), .int (0 : Int32), .int ((σ 2 (Int32.toNatClampNeg (12 : Int32))) - (1 : Int32))]) (rest := []) C (xc_R_in σ (σ 8 (Int32.toNatClampNeg a1)) (0 : Int32) ((σ 2 (Int32.toNatClampNeg (12 : Int32))) - (1 : Int32)) _  e_158) rfl (gw_sub (gw_S xg_R_in ml_R_83 st_R_in wi_R)) na_R_in (rm_lt (by decide) (by decide)) ⟨Nat.zero_le _, Nat.zero_le _⟩ rfl (Nat.le_of_ble_eq_true rfl) xd_R_partsOf_158 ?_
    refine aw_if_eq (tgt := 168) C xd_R_partsOf_161 (by decide) (fun c_161 => ?_) (fun c_161 => ?_)
    · rw [if_pos c_161] at hm
      refine aw_iconst (v := (-1 : Int32)) C xd_R_partsOf_168 (by decide) ?_
      cases hm
      exact aw_iret C xd_R_partsOf_169
    · rw [if_neg c_161] at hm
      refine aw_iconst (v := (1 : Int32)) C xd_R_partsOf_164 (by decide) ?_
      refine aw_goto (tgt := 169) C xd_R_partsOf_165 (by decide) ?_
      cases hm
      exact aw_iret C xd_R_partsOf_169
  rw [if_neg c_23_3] at hm
  by_cases c_23_4 : σ 6 (Int32.toNatClampNeg a1) = (4 : Int32)
  · rw [if_pos c_23_4] at hm
    refine aw_tabIn (off := 197) (tgt := 220) C xd_R_partsOf_23 (by rw [c_23_4]; decide) (by rw [c_23_4]; decide) (by rw [c_23_4]; rfl) (by decide) ?_
    refine aw_iconst (v := (2 : Int32)) C xd_R_partsOf_220 (by decide) ?_
    cases hm
    exact aw_iret C xd_R_partsOf_221
  rw [if_neg c_23_4] at hm
  by_cases c_23_5 : σ 6 (Int32.toNatClampNeg a1) = (5 : Int32)
  · rw [if_pos c_23_5] at hm
    refine aw_tabIn (off := 197) (tgt := 220) C xd_R_partsOf_23 (by rw [c_23_5]; decide) (by rw [c_23_5]; decide) (by rw [c_23_5]; rfl) (by decide) ?_
    refine aw_iconst (v := (2 : Int32)) C xd_R_partsOf_220 (by decide) ?_
    cases hm
    exact aw_iret C xd_R_partsOf_221
  rw [if_neg c_23_5] at hm
  by_cases c_23_6 : σ 6 (Int32.toNatClampNeg a1) = (6 : Int32)
  · rw [if_pos c_23_6] at hm
    refine aw_tabIn (off := 197) (tgt := 220) C xd_R_partsOf_23 (by rw [c_23_6]; decide) (by rw [c_23_6]; decide) (by rw [c_23_6]; rfl) (by decide) ?_
    refine aw_iconst (v := (2 : Int32)) C xd_R_partsOf_220 (by decide) ?_
    cases hm
    exact aw_iret C xd_R_partsOf_221
  rw [if_neg c_23_6] at hm
  by_cases c_23_7 : σ 6 (Int32.toNatClampNeg a1) = (7 : Int32)
  · rw [if_pos c_23_7] at hm
    refine aw_tabIn (off := 197) (tgt := 220) C xd_R_partsOf_23 (by rw [c_23_7]; decide) (by rw [c_23_7]; decide) (by rw [c_23_7]; rfl) (by decide) ?_
    refine aw_iconst (v := (2 : Int32)) C xd_R_partsOf_220 (by decide) ?_
    cases hm
    exact aw_iret C xd_R_partsOf_221
  rw [if_neg c_23_7] at hm
  by_cases c_23_8 : σ 6 (Int32.toNatClampNeg a1) = (8 : Int32)
  · rw [if_pos c_23_8] at hm
    refine aw_tabIn (off := 197) (tgt := 220) C xd_R_partsOf_23 (by rw [c_23_8]; decide) (by rw [c_23_8]; decide) (by rw [c_23_8]; rfl) (by decide) ?_
    refine aw_iconst (v := (2 : Int32)) C xd_R_partsOf_220 (by decide) ?_
    cases hm
    exact aw_iret C xd_R_partsOf_221
  rw [if_neg c_23_8] at hm
  by_cases c_23_9 : σ 6 (Int32.toNatClampNeg a1) = (9 : Int32)
  · rw [if_pos c_23_9] at hm
    refine aw_tabIn (off := 147) (tgt := 170) C xd_R_partsOf_23 (by rw [c_23_9]; decide) (by rw [c_23_9]; decide) (by rw [c_23_9]; rfl) (by decide) ?_
    refine aw_iconst (v := (3 : Int32)) C xd_R_partsOf_170 (by decide) ?_
    cases hm
    exact aw_iret C xd_R_partsOf_171
  rw [if_neg c_23_9] at hm
  by_cases c_23_10 : σ 6 (Int32.toNatClampNeg a1) = (10 : Int32)
  · rw [if_pos c_23_10] at hm
    refine aw_tabIn (off := 197) (tgt := 220) C xd_R_partsOf_23 (by rw [c_23_10]; decide) (by rw [c_23_10]; decide) (by rw [c_23_10]; rfl) (by decide) ?_
    refine aw_iconst (v := (2 : Int32)) C xd_R_partsOf_220 (by decide) ?_
    cases hm
    exact aw_iret C xd_R_partsOf_221
  rw [if_neg c_23_10] at hm
  by_cases c_23_11 : σ 6 (Int32.toNatClampNeg a1) = (11 : Int32)
  · rw [if_pos c_23_11] at hm
    refine aw_tabIn (off := 149) (tgt := 172) C xd_R_partsOf_23 (by rw [c_23_11]; decide) (by rw [c_23_11]; decide) (by rw [c_23_11]; rfl) (by decide) ?_
    refine aw_iload C 0 xd_R_partsOf_172 rfl ?_
    refine aw_if_lt (tgt := 218) C xd_R_partsOf_174 (by decide) (fun c_174 => ?_) (fun c_174 => ?_)
    · rw [if_pos c_174] at hm
      refine aw_iconst (v := (-1 : Int32)) C xd_R_partsOf_218 (by decide) ?_
      cases hm
      exact aw_iret C xd_R_partsOf_219
    · rw [if_neg c_174] at hm
      refine aw_aload_n C 2 xd_R_partsOf_177 rfl rfl ?_
      refine aw_get C 0 (by decide) rfl rfl (fun w h => List.mem_cons_of_mem _ (xi_R w h)) 7 (by decide) rfl (List.mem_cons_of_mem _ fl_R_31) xd_R_partsOf_178 ?_
      refine aw_iload_n C 3 xd_R_partsOf_181 rfl rfl ?_
      obtain ⟨g_182, hm⟩ := aw_grd hm
      refine aw_iald C 8 (by decide) 0 rfl rfl (aw_in_ok g_182) xd_R_partsOf_182 ?_
      refine aw_iconst (v := (0 : Int32)) C xd_R_partsOf_183 (by decide) ?_
      refine aw_aload_n C 2 xd_R_partsOf_184 rfl rfl ?_
      refine aw_get C 0 (by decide) rfl rfl (fun w h => List.mem_cons_of_mem _ (xi_R w h)) 2 (by decide) rfl (List.mem_cons_of_mem _ fl_R_16) xd_R_partsOf_185 ?_
      refine aw_iload C 0 xd_R_partsOf_188 rfl ?_
      obtain ⟨g_190, hm⟩ := aw_grd hm
      refine aw_iald C 3 (by decide) 0 rfl rfl (aw_in_ok g_190) xd_R_partsOf_190 ?_
      refine aw_iconst (v := (1 : Int32)) C xd_R_partsOf_191 (by decide) ?_
      refine aw_isub C xd_R_partsOf_192 ?_
      obtain ⟨q_193, e_193, hm⟩ := aw_bnd hm
      refine aw_callSi (As := [.int (σ 8 (Int32.toNatClampNeg a1)), .int (0 : Int32), .int ((σ 3 (Int32.toNatClampNeg q_12)) - (1 : Int32))]) (rest := []) C (xc_R_in σ (σ 8 (Int32.toNatClampNeg a1)) (0 : Int32) ((σ 3 (Int32.toNatClampNeg q_12)) - (1 : Int32)) _  e_193) rfl (gw_sub (gw_S xg_R_in ml_R_83 st_R_in wi_R)) na_R_in (rm_lt (by decide) (by decide)) ⟨Nat.zero_le _, Nat.zero_le _⟩ rfl (Nat.le_of_ble_eq_true rfl) xd_R_partsOf_193 ?_
      refine aw_if_eq (tgt := 218) C xd_R_partsOf_196 (by decide) (fun c_196 => ?_) (fun c_196 => ?_)
      · rw [if_pos c_196] at hm
        refine aw_iconst (v := (-1 : Int32)) C xd_R_partsOf_218 (by decide) ?_
        cases hm
        exact aw_iret C xd_R_partsOf_219
      · rw [if_neg c_196] at hm
        refine aw_aload_n C 2 xd_R_partsOf_199 rfl rfl ?_
        refine aw_get C 0 (by decide) rfl rfl (fun w h => List.mem_cons_of_mem _ (xi_R w h)) 3 (by decide) rfl (List.mem_cons_of_mem _ fl_R_19) xd_R_partsOf_200 ?_
        refine aw_iconst (v := (3 : Int32)) C xd_R_partsOf_203 (by decide) ?_
        refine aw_iload C 0 xd_R_partsOf_204 rfl ?_
        refine aw_imul C xd_R_partsOf_206 ?_
        refine aw_aload_n C 2 xd_R_partsOf_207 rfl rfl ?_
        refine aw_get C 0 (by decide) rfl rfl (fun w h => List.mem_cons_of_mem _ (xi_R w h)) 7 (by decide) rfl (List.mem_cons_of_mem _ fl_R_31) xd_R_partsOf_208 ?_
        refine aw_iload_n C 3 xd_R_partsOf_211 rfl rfl ?_
        obtain ⟨g_212, hm⟩ := aw_grd hm
        refine aw_iald C 8 (by decide) 0 rfl rfl (aw_in_ok g_212) xd_R_partsOf_212 ?_
        refine aw_iadd C xd_R_partsOf_213 ?_
        obtain ⟨g_214, hm⟩ := aw_grd hm
        refine aw_iald C 4 (by decide) 0 rfl rfl (aw_in_ok g_214) xd_R_partsOf_214 ?_
        refine aw_goto (tgt := 219) C xd_R_partsOf_215 (by decide) ?_
        cases hm
        exact aw_iret C xd_R_partsOf_219
  rw [if_neg c_23_11] at hm
  have t_23_0 := lv_neT c_23_0 (a := 0) (by decide)
  have t_23_1 := lv_neT c_23_1 (a := 1) (by decide)
  have t_23_2 := lv_neT c_23_2 (a := 2) (by decide)
  have t_23_3 := lv_neT c_23_3 (a := 3) (by decide)
  have t_23_4 := lv_neT c_23_4 (a := 4) (by decide)
  have t_23_5 := lv_neT c_23_5 (a := 5) (by decide)
  have t_23_6 := lv_neT c_23_6 (a := 6) (by decide)
  have t_23_7 := lv_neT c_23_7 (a := 7) (by decide)
  have t_23_8 := lv_neT c_23_8 (a := 8) (by decide)
  have t_23_9 := lv_neT c_23_9 (a := 9) (by decide)
  have t_23_10 := lv_neT c_23_10 (a := 10) (by decide)
  have t_23_11 := lv_neT c_23_11 (a := 11) (by decide)
  refine aw_tabOut (tgt := 220) C xd_R_partsOf_23 (by omega) (by decide) ?_
  refine aw_iconst (v := (2 : Int32)) C xd_R_partsOf_220 (by decide) ?_
  cases hm
  exact aw_iret C xd_R_partsOf_221
def xq_R_firstWrong_84 (c_8 : aw_m → Int32 → Int32 → Int32 → Int32 → Int32 → Option (Int32 × aw_m)) : Nat → aw_m → Int32 → Int32 → Int32 → Int32 → Int32 → Int32 → Option (Int32 × aw_m)
  | 0, _, _, _, _, _, _, _ => none
  | n + 1, σ, v1, v2, v3, v4, v5, v6 => (if v3 ≤ 0 then (if v3 = 0 then c_8 σ v1 v2 v3 (1 : Int32) (v5 + (1 : Int32)) else c_8 σ v1 v2 v3 (0 : Int32) (v5 + (1 : Int32))) else if aw_in (v3 - (1 : Int32)) 16 = true then (if σ 15 (Int32.toNatClampNeg (v3 - (1 : Int32))) = 0 then xq_R_firstWrong_84 c_8 n σ v1 v2 (v3 + (-1 : Int32)) v4 v5 v6 else (if v3 = 0 then c_8 σ v1 v2 v3 (1 : Int32) (v5 + (1 : Int32)) else c_8 σ v1 v2 v3 (0 : Int32) (v5 + (1 : Int32)))) else none)
def xq_R_firstWrong_8  : Nat → aw_m → Int32 → Int32 → Int32 → Int32 → Int32 → Option (Int32 × aw_m)
  | 0, _, _, _, _, _, _ => none
  | n + 1, σ, v1, v2, v3, v4, v5 => if aw_in v1 39 = true then (if σ 5 (Int32.toNatClampNeg v1) ≤ v5 then (if v4 = 0 then if aw_in v1 39 = true then some (σ 5 (Int32.toNatClampNeg v1), σ) else none else some ((-1 : Int32), σ)) else (xm_R_partsOf σ (((14 : Int32) * v1) + v5) v1 v2).bind fun q_29 => (if v4 = 0 then (if q_29 < 0 then some (v5, σ) else (if v3 ≤ (4 : Int32) then (if v3 ≤ 0 then (if q_29 ≤ 0 then xq_R_firstWrong_84 (xq_R_firstWrong_8 n) 64 σ v1 v2 v3 v4 v5 q_29 else if aw_in v3 16 = true then aw_l (aw_p σ 15 (Int32.toNatClampNeg v3) q_29) fun s_80 => xq_R_firstWrong_84 (xq_R_firstWrong_8 n) 64 s_80 v1 v2 (v3 + (1 : Int32)) v4 v5 q_29 else none) else if aw_in (v3 - (1 : Int32)) 16 = true then if aw_in (v3 - (1 : Int32)) 16 = true then aw_l (aw_p σ 15 (Int32.toNatClampNeg (v3 - (1 : Int32))) ((σ 15 (Int32.toNatClampNeg (v3 - (1 : Int32)))) - (1 : Int32))) fun s_67 => (if q_29 ≤ 0 then xq_R_firstWrong_84 (xq_R_firstWrong_8 n) 64 s_67 v1 v2 v3 v4 v5 q_29 else if aw_in v3 16 = true then aw_l (aw_p s_67 15 (Int32.toNatClampNeg v3) q_29) fun s_80 => xq_R_firstWrong_84 (xq_R_firstWrong_8 n) 64 s_80 v1 v2 (v3 + (1 : Int32)) v4 v5 q_29 else none) else none else none) else some (v5, σ))) else some (v5, σ))) else none
def xm_R_firstWrong (σ : aw_m) (a1 : Int32) (a2 : Int32) : Option (Int32 × aw_m) := xq_R_firstWrong_8 64 σ a1 a2 (0 : Int32) (0 : Int32) (0 : Int32)
set_option maxHeartbeats 4000000 in
set_option maxRecDepth 100000 in
theorem xl_R_firstWrong_84 (c_8 : aw_m → Int32 → Int32 → Int32 → Int32 → Int32 → Option (Int32 × aw_m)) {κ : aw_K} (q : Int32 × aw_m) (C : aw_X l D (ty_z ids) (zs_T ps) (rm_D (3)) xb_R_firstWrong 7 "ModuleShelfModel" (xw_R_firstWrong :: gw_l) (some .int) (some (.int q.1)) (rw_w ad ids q.2) κ) (hc_8 : ∀ (σ : aw_m) (v1 : Int32) (v2 : Int32) (v3 : Int32) (v4 : Int32) (v5 : Int32) , c_8 σ v1 v2 v3 v4 v5 = some q → aw_J κ 0 0 (rw_w ad ids σ) [(0, .ref (ad 0)), (1, .int v1), (2, .int v2), (3, .int v3), (4, .int v4), (5, .int v5)] 8 []) : ∀ (n : Nat) (σ : aw_m) (v1 : Int32) (v2 : Int32) (v3 : Int32) (v4 : Int32) (v5 : Int32) (v6 : Int32) , xq_R_firstWrong_84 c_8 n σ v1 v2 v3 v4 v5 v6 = some q → aw_J κ 0 0 (rw_w ad ids σ) [(0, .ref (ad 0)), (1, .int v1), (2, .int v2), (3, .int v3), (4, .int v4), (5, .int v5), (6, .int v6)] 84 [] := by
  intro n
  induction n with
  | zero => intro σ v1 v2 v3 v4 v5 v6 hm; cases hm
  | succ n ih =>
    intro σ v1 v2 v3 v4 v5 v6 hm
    rw [xq_R_firstWrong_84] at hm
    refine aw_iload_n C 3 xd_R_firstWrong_84 rfl rfl ?_
    refine aw_if_le (tgt := 105) C xd_R_firstWrong_85 (by decide) (fun c_85 => ?_) (fun c_85 => ?_)
    · rw [if_pos c_85] at hm
      refine aw_iload_n C 3 xd_R_firstWrong_105 rfl rfl ?_
      refine aw_if_ne (tgt := 113) C xd_R_firstWrong_106 (by decide) (fun c_106 => ?_) (fun c_106 => ?_)
      · rw [if_neg c_106] at hm
        refine aw_iconst (v := (0 : Int32)) C xd_R_firstWrong_113 (by decide) ?_
        refine aw_istore (L' := [(4, .int (0 : Int32)), (0, .ref (ad 0)), (1, .int v1), (2, .int v2), (3, .int v3), (5, .int v5), (6, .int v6)]) C xd_R_firstWrong_114 (by decide) rfl ?_
        refine aw_iinc (j := 5) (v := v5 + (1 : Int32)) (L' := [(5, .int (v5 + (1 : Int32))), (4, .int (0 : Int32)), (0, .ref (ad 0)), (1, .int v1), (2, .int v2), (3, .int v3), (6, .int v6)]) C xd_R_firstWrong_116 rfl rfl (by decide) rfl ?_
        refine aw_goto (tgt := 8) C xd_R_firstWrong_119 (by decide) ?_
        refine aw_loc (L' := [(0, .ref (ad 0)), (1, .int v1), (2, .int v2), (3, .int v3), (4, .int (0 : Int32)), (5, .int (v5 + (1 : Int32)))]) C [2, 3, 4, 5, 1, 0] rfl ?_
        exact hc_8 σ v1 v2 v3 (0 : Int32) (v5 + (1 : Int32))  hm
      · rw [if_pos c_106] at hm
        refine aw_iconst (v := (1 : Int32)) C xd_R_firstWrong_109 (by decide) ?_
        refine aw_goto (tgt := 114) C xd_R_firstWrong_110 (by decide) ?_
        refine aw_istore (L' := [(4, .int (1 : Int32)), (0, .ref (ad 0)), (1, .int v1), (2, .int v2), (3, .int v3), (5, .int v5), (6, .int v6)]) C xd_R_firstWrong_114 (by decide) rfl ?_
        refine aw_iinc (j := 5) (v := v5 + (1 : Int32)) (L' := [(5, .int (v5 + (1 : Int32))), (4, .int (1 : Int32)), (0, .ref (ad 0)), (1, .int v1), (2, .int v2), (3, .int v3), (6, .int v6)]) C xd_R_firstWrong_116 rfl rfl (by decide) rfl ?_
        refine aw_goto (tgt := 8) C xd_R_firstWrong_119 (by decide) ?_
        refine aw_loc (L' := [(0, .ref (ad 0)), (1, .int v1), (2, .int v2), (3, .int v3), (4, .int (1 : Int32)), (5, .int (v5 + (1 : Int32)))]) C [2, 3, 4, 5, 1, 0] rfl ?_
        exact hc_8 σ v1 v2 v3 (1 : Int32) (v5 + (1 : Int32))  hm
    · rw [if_neg c_85] at hm
      refine aw_aload_n C 0 xd_R_firstWrong_88 rfl rfl ?_
      refine aw_get C 0 (by decide) rfl rfl (fun w h => List.mem_cons_of_mem _ (xi_R w h)) 18 (by decide) rfl (List.mem_cons_of_mem _ fl_R_56) xd_R_firstWrong_89 ?_
      refine aw_iload_n C 3 xd_R_firstWrong_92 rfl rfl ?_
      refine aw_iconst (v := (1 : Int32)) C xd_R_firstWrong_93 (by decide) ?_
      refine aw_isub C xd_R_firstWrong_94 ?_
      obtain ⟨g_95, hm⟩ := aw_grd hm
      refine aw_iald C 15 (by decide) 0 rfl rfl (aw_in_ok g_95) xd_R_firstWrong_95 ?_
      refine aw_if_ne (tgt := 105) C xd_R_firstWrong_96 (by decide) (fun c_96 => ?_) (fun c_96 => ?_)
      · rw [if_neg c_96] at hm
        refine aw_iload_n C 3 xd_R_firstWrong_105 rfl rfl ?_
        refine aw_if_ne (tgt := 113) C xd_R_firstWrong_106 (by decide) (fun c_106 => ?_) (fun c_106 => ?_)
        · rw [if_neg c_106] at hm
          refine aw_iconst (v := (0 : Int32)) C xd_R_firstWrong_113 (by decide) ?_
          refine aw_istore (L' := [(4, .int (0 : Int32)), (0, .ref (ad 0)), (1, .int v1), (2, .int v2), (3, .int v3), (5, .int v5), (6, .int v6)]) C xd_R_firstWrong_114 (by decide) rfl ?_
          refine aw_iinc (j := 5) (v := v5 + (1 : Int32)) (L' := [(5, .int (v5 + (1 : Int32))), (4, .int (0 : Int32)), (0, .ref (ad 0)), (1, .int v1), (2, .int v2), (3, .int v3), (6, .int v6)]) C xd_R_firstWrong_116 rfl rfl (by decide) rfl ?_
          refine aw_goto (tgt := 8) C xd_R_firstWrong_119 (by decide) ?_
          refine aw_loc (L' := [(0, .ref (ad 0)), (1, .int v1), (2, .int v2), (3, .int v3), (4, .int (0 : Int32)), (5, .int (v5 + (1 : Int32)))]) C [2, 3, 4, 5, 1, 0] rfl ?_
          exact hc_8 σ v1 v2 v3 (0 : Int32) (v5 + (1 : Int32))  hm
        · rw [if_pos c_106] at hm
          refine aw_iconst (v := (1 : Int32)) C xd_R_firstWrong_109 (by decide) ?_
          refine aw_goto (tgt := 114) C xd_R_firstWrong_110 (by decide) ?_
          refine aw_istore (L' := [(4, .int (1 : Int32)), (0, .ref (ad 0)), (1, .int v1), (2, .int v2), (3, .int v3), (5, .int v5), (6, .int v6)]) C xd_R_firstWrong_114 (by decide) rfl ?_
          refine aw_iinc (j := 5) (v := v5 + (1 : Int32)) (L' := [(5, .int (v5 + (1 : Int32))), (4, .int (1 : Int32)), (0, .ref (ad 0)), (1, .int v1), (2, .int v2), (3, .int v3), (6, .int v6)]) C xd_R_firstWrong_116 rfl rfl (by decide) rfl ?_
          refine aw_goto (tgt := 8) C xd_R_firstWrong_119 (by decide) ?_
          refine aw_loc (L' := [(0, .ref (ad 0)), (1, .int v1), (2, .int v2), (3, .int v3), (4, .int (1 : Int32)), (5, .int (v5 + (1 : Int32)))]) C [2, 3, 4, 5, 1, 0] rfl ?_
          exact hc_8 σ v1 v2 v3 (1 : Int32) (v5 + (1 : Int32))  hm
      · rw [if_pos c_96] at hm
        refine aw_iinc (j := 3) (v := v3 + (-1 : Int32)) (L' := [(3, .int (v3 + (-1 : Int32))), (0, .ref (ad 0)), (1, .int v1), (2, .int v2), (4, .int v4), (5, .int v5), (6, .int v6)]) C xd_R_firstWrong_99 rfl rfl (by decide) rfl ?_
        refine aw_goto (tgt := 84) C xd_R_firstWrong_102 (by decide) ?_
        refine aw_loc (L' := [(0, .ref (ad 0)), (1, .int v1), (2, .int v2), (3, .int (v3 + (-1 : Int32))), (4, .int v4), (5, .int v5), (6, .int v6)]) C [1, 2, 3, 0, 4, 5, 6] rfl ?_
        exact ih σ v1 v2 (v3 + (-1 : Int32)) v4 v5 v6  hm
set_option maxHeartbeats 4000000 in
set_option maxRecDepth 100000 in
theorem xl_R_firstWrong_8  {κ : aw_K} (q : Int32 × aw_m) (C : aw_X l D (ty_z ids) (zs_T ps) (rm_D (3)) xb_R_firstWrong 7 "ModuleShelfModel" (xw_R_firstWrong :: gw_l) (some .int) (some (.int q.1)) (rw_w ad ids q.2) κ) : ∀ (n : Nat) (σ : aw_m) (v1 : Int32) (v2 : Int32) (v3 : Int32) (v4 : Int32) (v5 : Int32) , xq_R_firstWrong_8 n σ v1 v2 v3 v4 v5 = some q → aw_J κ 0 0 (rw_w ad ids σ) [(0, .ref (ad 0)), (1, .int v1), (2, .int v2), (3, .int v3), (4, .int v4), (5, .int v5)] 8 [] := by
  intro n
  induction n with
  | zero => intro σ v1 v2 v3 v4 v5 hm; cases hm
  | succ n ih =>
    intro σ v1 v2 v3 v4 v5 hm
    rw [xq_R_firstWrong_8] at hm
    refine aw_iload C 5 xd_R_firstWrong_8 rfl ?_
    refine aw_aload_n C 0 xd_R_firstWrong_10 rfl rfl ?_
    refine aw_get C 0 (by decide) rfl rfl (fun w h => List.mem_cons_of_mem _ (xi_R w h)) 4 (by decide) rfl (List.mem_cons_of_mem _ fl_R_22) xd_R_firstWrong_11 ?_
    refine aw_iload_n C 1 xd_R_firstWrong_14 rfl rfl ?_
    obtain ⟨g_15, hm⟩ := aw_grd hm
    refine aw_iald C 5 (by decide) 0 rfl rfl (aw_in_ok g_15) xd_R_firstWrong_15 ?_
    refine aw_icmp_ge (tgt := 122) C xd_R_firstWrong_16 (by decide) (fun c_16 => ?_) (fun c_16 => ?_)
    · rw [if_pos c_16] at hm
      refine aw_iload C 4 xd_R_firstWrong_122 rfl ?_
      refine aw_if_eq (tgt := 131) C xd_R_firstWrong_124 (by decide) (fun c_124 => ?_) (fun c_124 => ?_)
      · rw [if_pos c_124] at hm
        refine aw_aload_n C 0 xd_R_firstWrong_131 rfl rfl ?_
        refine aw_get C 0 (by decide) rfl rfl (fun w h => List.mem_cons_of_mem _ (xi_R w h)) 4 (by decide) rfl (List.mem_cons_of_mem _ fl_R_22) xd_R_firstWrong_132 ?_
        refine aw_iload_n C 1 xd_R_firstWrong_135 rfl rfl ?_
        obtain ⟨g_136, hm⟩ := aw_grd hm
        refine aw_iald C 5 (by decide) 0 rfl rfl (aw_in_ok g_136) xd_R_firstWrong_136 ?_
        cases hm
        exact aw_iret C xd_R_firstWrong_137
      · rw [if_neg c_124] at hm
        refine aw_iconst (v := (-1 : Int32)) C xd_R_firstWrong_127 (by decide) ?_
        refine aw_goto (tgt := 137) C xd_R_firstWrong_128 (by decide) ?_
        cases hm
        exact aw_iret C xd_R_firstWrong_137
    · rw [if_neg c_16] at hm
      refine aw_aload_n C 0 xd_R_firstWrong_19 rfl rfl ?_
      refine aw_bipush (v := (14 : Int32)) C xd_R_firstWrong_20 (by decide) ?_
      refine aw_iload_n C 1 xd_R_firstWrong_22 rfl rfl ?_
      refine aw_imul C xd_R_firstWrong_23 ?_
      refine aw_iload C 5 xd_R_firstWrong_24 rfl ?_
      refine aw_iadd C xd_R_firstWrong_26 ?_
      refine aw_iload_n C 1 xd_R_firstWrong_27 rfl rfl ?_
      refine aw_iload_n C 2 xd_R_firstWrong_28 rfl rfl ?_
      obtain ⟨q_29, e_29, hm⟩ := aw_bnd hm
      refine aw_callVi (As := [.int (((14 : Int32) * v1) + v5), .int v1, .int v2]) (rest := []) (b := ad 0) C (xc_R_partsOf σ (((14 : Int32) * v1) + v5) v1 v2 _  e_29) rfl (gw_sub (gw_V xg_R_partsOf ml_R_91 im_R_partsOf se_R_partsOf wi_R)) na_R_partsOf (rm_lt (by decide) (by decide)) ⟨Nat.zero_le _, Nat.zero_le _⟩ 0 at_R rfl rfl (Nat.le_of_ble_eq_true rfl) xd_R_firstWrong_29 ?_
      refine aw_istore (L' := [(6, .int q_29), (0, .ref (ad 0)), (1, .int v1), (2, .int v2), (3, .int v3), (4, .int v4), (5, .int v5)]) C xd_R_firstWrong_32 (by decide) rfl ?_
      refine aw_iload C 5 xd_R_firstWrong_34 rfl ?_
      refine aw_if_ne (tgt := 49) C xd_R_firstWrong_36 (by decide) (fun c_36 => ?_) (fun c_36 => ?_)
      · rw [if_neg c_36] at hm
        refine aw_iload C 6 xd_R_firstWrong_49 rfl ?_
        cases hm
        exact aw_iret C xd_R_firstWrong_51
      · rw [if_pos c_36] at hm
        refine aw_iload C 0 xd_R_firstWrong_39 rfl ?_
        refine aw_if_lt (tgt := 49) C xd_R_firstWrong_41 (by decide) (fun c_41 => ?_) (fun c_41 => ?_)
        · rw [if_pos c_41] at hm
          refine aw_iload C 6 xd_R_firstWrong_49 rfl ?_
          cases hm
          exact aw_iret C xd_R_firstWrong_51
        · rw [if_neg c_41] at hm
          refine aw_iload_n C 4 xd_R_firstWrong_44 rfl rfl ?_
          refine aw_iconst (v := (4 : Int32)) C xd_R_firstWrong_45 (by decide) ?_
          refine aw_icmp_le (tgt := 52) C xd_R_firstWrong_46 (by decide) (fun c_46 => ?_) (fun c_46 => ?_)
          · rw [if_pos c_46] at hm
            refine aw_iload_n C 4 xd_R_firstWrong_52 rfl rfl ?_
            refine aw_if_le (tgt := 68) C xd_R_firstWrong_53 (by decide) (fun c_53 => ?_) (fun c_53 => ?_)
            · rw [if_pos c_53] at hm
              refine aw_iload C 0 xd_R_firstWrong_68 rfl ?_
              refine aw_if_le (tgt := 84) C xd_R_firstWrong_70 (by decide) (fun c_70 => ?_) (fun c_70 => ?_)
              · rw [if_pos c_70] at hm
                refine aw_loc (L' := [(0, .ref (ad 0)), (1, .int v1), (2, .int v2), (3, .int v3), (4, .int v4), (5, .int v5), (6, .int q_29)]) C [1, 2, 3, 4, 5, 6, 0] rfl ?_
                exact xl_R_firstWrong_84 (xq_R_firstWrong_8 n) _ C ih 64 σ v1 v2 v3 v4 v5 q_29  hm
              · rw [if_neg c_70] at hm
                refine aw_aload_n C 1 xd_R_firstWrong_73 rfl rfl ?_
                refine aw_get C 0 (by decide) rfl rfl (fun w h => List.mem_cons_of_mem _ (xi_R w h)) 18 (by decide) rfl (List.mem_cons_of_mem _ fl_R_56) xd_R_firstWrong_74 ?_
                refine aw_iload_n C 4 xd_R_firstWrong_77 rfl rfl ?_
                refine aw_iload C 0 xd_R_firstWrong_78 rfl ?_
                obtain ⟨g_80, hm⟩ := aw_grd hm
                obtain ⟨s_80, h_80, hm⟩ := aw_let hm
                refine aw_iast (σ1 := s_80) (g := upd (σ 15) (Int32.toNatClampNeg v3) q_29) C 15 (by decide) 0 rfl rfl (aw_in_ok g_80) rfl h_80 xd_R_firstWrong_80 ?_
                refine aw_iinc (j := 4) (v := v3 + (1 : Int32)) (L' := [(3, .int (v3 + (1 : Int32))), (6, .int q_29), (0, .ref (ad 0)), (1, .int v1), (2, .int v2), (4, .int v4), (5, .int v5)]) C xd_R_firstWrong_81 rfl rfl (by decide) rfl ?_
                refine aw_loc (L' := [(0, .ref (ad 0)), (1, .int v1), (2, .int v2), (3, .int (v3 + (1 : Int32))), (4, .int v4), (5, .int v5), (6, .int q_29)]) C [2, 3, 4, 0, 5, 6, 1] rfl ?_
                exact xl_R_firstWrong_84 (xq_R_firstWrong_8 n) _ C ih 64 s_80 v1 v2 (v3 + (1 : Int32)) v4 v5 q_29  hm
            · rw [if_neg c_53] at hm
              refine aw_aload_n C 1 xd_R_firstWrong_56 rfl rfl ?_
              refine aw_get C 0 (by decide) rfl rfl (fun w h => List.mem_cons_of_mem _ (xi_R w h)) 18 (by decide) rfl (List.mem_cons_of_mem _ fl_R_56) xd_R_firstWrong_57 ?_
              refine aw_iload_n C 4 xd_R_firstWrong_60 rfl rfl ?_
              refine aw_iconst (v := (1 : Int32)) C xd_R_firstWrong_61 (by decide) ?_
              refine aw_isub C xd_R_firstWrong_62 ?_
              refine aw_dup2 C xd_R_firstWrong_63 rfl rfl ?_
              obtain ⟨g_64, hm⟩ := aw_grd hm
              refine aw_iald C 15 (by decide) 0 rfl rfl (aw_in_ok g_64) xd_R_firstWrong_64 ?_
              refine aw_iconst (v := (1 : Int32)) C xd_R_firstWrong_65 (by decide) ?_
              refine aw_isub C xd_R_firstWrong_66 ?_
              obtain ⟨g_67, hm⟩ := aw_grd hm
              obtain ⟨s_67, h_67, hm⟩ := aw_let hm
              refine aw_iast (σ1 := s_67) (g := upd (σ 15) (Int32.toNatClampNeg (v3 - (1 : Int32))) ((σ 15 (Int32.toNatClampNeg (v3 - (1 : Int32)))) - (1 : Int32))) C 15 (by decide) 0 rfl rfl (aw_in_ok g_67) rfl h_67 xd_R_firstWrong_67 ?_
              refine aw_iload C 0 xd_R_firstWrong_68 rfl ?_
              refine aw_if_le (tgt := 84) C xd_R_firstWrong_70 (by decide) (fun c_70 => ?_) (fun c_70 => ?_)
              · rw [if_pos c_70] at hm
                refine aw_loc (L' := [(0, .ref (ad 0)), (1, .int v1), (2, .int v2), (3, .int v3), (4, .int v4), (5, .int v5), (6, .int q_29)]) C [1, 2, 3, 4, 5, 6, 0] rfl ?_
                exact xl_R_firstWrong_84 (xq_R_firstWrong_8 n) _ C ih 64 s_67 v1 v2 v3 v4 v5 q_29  hm
              · rw [if_neg c_70] at hm
                refine aw_aload_n C 1 xd_R_firstWrong_73 rfl rfl ?_
                refine aw_get C 0 (by decide) rfl rfl (fun w h => List.mem_cons_of_mem _ (xi_R w h)) 18 (by decide) rfl (List.mem_cons_of_mem _ fl_R_56) xd_R_firstWrong_74 ?_
                refine aw_iload_n C 4 xd_R_firstWrong_77 rfl rfl ?_
                refine aw_iload C 0 xd_R_firstWrong_78 rfl ?_
                obtain ⟨g_80, hm⟩ := aw_grd hm
                obtain ⟨s_80, h_80, hm⟩ := aw_let hm
                refine aw_iast (σ1 := s_80) (g := upd (s_67 15) (Int32.toNatClampNeg v3) q_29) C 15 (by decide) 0 rfl rfl (aw_in_ok g_80) rfl h_80 xd_R_firstWrong_80 ?_
                refine aw_iinc (j := 4) (v := v3 + (1 : Int32)) (L' := [(3, .int (v3 + (1 : Int32))), (6, .int q_29), (0, .ref (ad 0)), (1, .int v1), (2, .int v2), (4, .int v4), (5, .int v5)]) C xd_R_firstWrong_81 rfl rfl (by decide) rfl ?_
                refine aw_loc (L' := [(0, .ref (ad 0)), (1, .int v1), (2, .int v2), (3, .int (v3 + (1 : Int32))), (4, .int v4), (5, .int v5), (6, .int q_29)]) C [2, 3, 4, 0, 5, 6, 1] rfl ?_
                exact xl_R_firstWrong_84 (xq_R_firstWrong_8 n) _ C ih 64 s_80 v1 v2 (v3 + (1 : Int32)) v4 v5 q_29  hm
          · rw [if_neg c_46] at hm
            refine aw_iload C 6 xd_R_firstWrong_49 rfl ?_
            cases hm
            exact aw_iret C xd_R_firstWrong_51
set_option maxHeartbeats 4000000 in
set_option maxRecDepth 100000 in
theorem xc_R_firstWrong (σ : aw_m) (a1 : Int32) (a2 : Int32) (q : Int32 × aw_m)  (hm : xm_R_firstWrong σ a1 a2 = some q) : aw_M l D (ty_z ids) (zs_T ps) xy_R_firstWrong (xw_R_firstWrong :: gw_l) (rm_D (3)) [.ref (ad 0), .int a1, .int a2] (rw_w ad ids σ) (some (.int q.1)) (rw_w ad ids q.2) := by
  refine aw_intro (cc := xb_R_firstWrong) (n := 7) (ret := (some .int)) "ModuleShelfModel" rfl (by decide) rfl (Nat.le_of_ble_eq_true rfl) ?_
  intro κ C
  unfold xm_R_firstWrong at hm
  refine aw_iconst (v := (0 : Int32)) C xd_R_firstWrong_0 (by decide) ?_
  refine aw_istore_n (L' := [(3, .int (0 : Int32)), (0, .ref (ad 0)), (1, .int a1), (2, .int a2)]) C xd_R_firstWrong_1 rfl (by decide) rfl ?_
  refine aw_iconst (v := (0 : Int32)) C xd_R_firstWrong_2 (by decide) ?_
  refine aw_istore (L' := [(4, .int (0 : Int32)), (3, .int (0 : Int32)), (0, .ref (ad 0)), (1, .int a1), (2, .int a2)]) C xd_R_firstWrong_3 (by decide) rfl ?_
  refine aw_iconst (v := (0 : Int32)) C xd_R_firstWrong_5 (by decide) ?_
  refine aw_istore (L' := [(5, .int (0 : Int32)), (4, .int (0 : Int32)), (3, .int (0 : Int32)), (0, .ref (ad 0)), (1, .int a1), (2, .int a2)]) C xd_R_firstWrong_6 (by decide) rfl ?_
  refine aw_loc (L' := [(0, .ref (ad 0)), (1, .int a1), (2, .int a2), (3, .int (0 : Int32)), (4, .int (0 : Int32)), (5, .int (0 : Int32))]) C [3, 4, 5, 2, 1, 0] rfl ?_
  exact xl_R_firstWrong_8 _ C 64 σ a1 a2 (0 : Int32) (0 : Int32) (0 : Int32)  hm
def xq_R_alike_45 (σ : aw_m)  : Nat → Int32 → Int32 → Option Int32
  | 0, _, _ => none
  | n + 1, v1, v2 => if aw_in v1 13 = true then (if σ 3 (Int32.toNatClampNeg v1) ≤ v2 then some (1 : Int32) else if aw_in (((3 : Int32) * v1) + v2) 39 = true then if aw_in ((36 : Int32) + v2) 39 = true then (if σ 4 (Int32.toNatClampNeg (((3 : Int32) * v1) + v2)) = σ 4 (Int32.toNatClampNeg ((36 : Int32) + v2)) then xq_R_alike_45 σ n v1 (v2 + (1 : Int32)) else some (0 : Int32)) else none else none) else none
def xm_R_alike (σ : aw_m) (a1 : Int32) : Option Int32 := if aw_in a1 13 = true then (if σ 1 (Int32.toNatClampNeg a1) = 0 then some (0 : Int32) else if aw_in a1 13 = true then (if σ 2 (Int32.toNatClampNeg a1) = σ 2 (Int32.toNatClampNeg (12 : Int32)) then if aw_in a1 13 = true then (if σ 3 (Int32.toNatClampNeg a1) = σ 3 (Int32.toNatClampNeg (12 : Int32)) then xq_R_alike_45 σ 64 a1 (0 : Int32) else some (0 : Int32)) else none else some (0 : Int32)) else none) else none
set_option maxHeartbeats 4000000 in
set_option maxRecDepth 100000 in
theorem xl_R_alike_45 (σ : aw_m)  {κ : aw_K} (q : Int32) (C : aw_X l D (ty_z ids) (zs_T ps) (rm_D (0)) xb_R_alike 3 "ModuleShelfModel" (xw_R_alike :: gw_l) (some .boolean) (some (.int q)) (rw_w ad ids σ) κ) : ∀ (n : Nat) (v1 : Int32) (v2 : Int32) , xq_R_alike_45 σ n v1 v2 = some q → aw_J κ 0 0 (rw_w ad ids σ) [(0, .ref (ad 0)), (1, .int v1), (2, .int v2)] 45 [] := by
  intro n
  induction n with
  | zero => intro v1 v2 hm; cases hm
  | succ n ih =>
    intro v1 v2 hm
    rw [xq_R_alike_45] at hm
    refine aw_iload_n C 2 xd_R_alike_45 rfl rfl ?_
    refine aw_aload_n C 0 xd_R_alike_46 rfl rfl ?_
    refine aw_get C 0 (by decide) rfl rfl (fun w h => List.mem_cons_of_mem _ (xi_R w h)) 2 (by decide) rfl (List.mem_cons_of_mem _ fl_R_16) xd_R_alike_47 ?_
    refine aw_iload_n C 1 xd_R_alike_50 rfl rfl ?_
    obtain ⟨g_51, hm⟩ := aw_grd hm
    refine aw_iald C 3 (by decide) 0 rfl rfl (aw_in_ok g_51) xd_R_alike_51 ?_
    refine aw_icmp_ge (tgt := 85) C xd_R_alike_52 (by decide) (fun c_52 => ?_) (fun c_52 => ?_)
    · rw [if_pos c_52] at hm
      refine aw_iconst (v := (1 : Int32)) C xd_R_alike_85 (by decide) ?_
      cases hm
      exact aw_zret C (by decide) xd_R_alike_86
    · rw [if_neg c_52] at hm
      refine aw_aload_n C 0 xd_R_alike_55 rfl rfl ?_
      refine aw_get C 0 (by decide) rfl rfl (fun w h => List.mem_cons_of_mem _ (xi_R w h)) 3 (by decide) rfl (List.mem_cons_of_mem _ fl_R_19) xd_R_alike_56 ?_
      refine aw_iconst (v := (3 : Int32)) C xd_R_alike_59 (by decide) ?_
      refine aw_iload_n C 1 xd_R_alike_60 rfl rfl ?_
      refine aw_imul C xd_R_alike_61 ?_
      refine aw_iload_n C 2 xd_R_alike_62 rfl rfl ?_
      refine aw_iadd C xd_R_alike_63 ?_
      obtain ⟨g_64, hm⟩ := aw_grd hm
      refine aw_iald C 4 (by decide) 0 rfl rfl (aw_in_ok g_64) xd_R_alike_64 ?_
      refine aw_aload_n C 0 xd_R_alike_65 rfl rfl ?_
      refine aw_get C 0 (by decide) rfl rfl (fun w h => List.mem_cons_of_mem _ (xi_R w h)) 3 (by decide) rfl (List.mem_cons_of_mem _ fl_R_19) xd_R_alike_66 ?_
      refine aw_bipush (v := (36 : Int32)) C xd_R_alike_69 (by decide) ?_
      refine aw_iload_n C 2 xd_R_alike_71 rfl rfl ?_
      refine aw_iadd C xd_R_alike_72 ?_
      obtain ⟨g_73, hm⟩ := aw_grd hm
      refine aw_iald C 4 (by decide) 0 rfl rfl (aw_in_ok g_73) xd_R_alike_73 ?_
      refine aw_icmp_eq (tgt := 79) C xd_R_alike_74 (by decide) (fun c_74 => ?_) (fun c_74 => ?_)
      · rw [if_pos c_74] at hm
        refine aw_iinc (j := 2) (v := v2 + (1 : Int32)) (L' := [(2, .int (v2 + (1 : Int32))), (0, .ref (ad 0)), (1, .int v1)]) C xd_R_alike_79 rfl rfl (by decide) rfl ?_
        refine aw_goto (tgt := 45) C xd_R_alike_82 (by decide) ?_
        refine aw_loc (L' := [(0, .ref (ad 0)), (1, .int v1), (2, .int (v2 + (1 : Int32)))]) C [1, 2, 0] rfl ?_
        exact ih v1 (v2 + (1 : Int32))  hm
      · rw [if_neg c_74] at hm
        refine aw_iconst (v := (0 : Int32)) C xd_R_alike_77 (by decide) ?_
        cases hm
        exact aw_zret C (by decide) xd_R_alike_78
set_option maxHeartbeats 4000000 in
set_option maxRecDepth 100000 in
theorem xc_R_alike (σ : aw_m) (a1 : Int32) (q : Int32)  (hm : xm_R_alike σ a1 = some q) : aw_M l D (ty_z ids) (zs_T ps) xy_R_alike (xw_R_alike :: gw_l) (rm_D (0)) [.ref (ad 0), .int a1] (rw_w ad ids σ) (some (.int q)) (rw_w ad ids σ) := by
  refine aw_intro (cc := xb_R_alike) (n := 3) (ret := (some .boolean)) "ModuleShelfModel" rfl (by decide) rfl (Nat.le_of_ble_eq_true rfl) ?_
  intro κ C
  unfold xm_R_alike at hm
  refine aw_aload_n C 0 xd_R_alike_0 rfl rfl ?_
  refine aw_get C 0 (by decide) rfl rfl (fun w h => List.mem_cons_of_mem _ (xi_R w h)) 0 (by decide) rfl (List.mem_cons_of_mem _ fl_R_7) xd_R_alike_1 ?_
  refine aw_iload_n C 1 xd_R_alike_4 rfl rfl ?_
  obtain ⟨g_5, hm⟩ := aw_grd hm
  refine aw_iald C 1 (by decide) 0 rfl rfl (aw_in_ok g_5) xd_R_alike_5 ?_
  refine aw_if_eq (tgt := 41) C xd_R_alike_6 (by decide) (fun c_6 => ?_) (fun c_6 => ?_)
  · rw [if_pos c_6] at hm
    refine aw_iconst (v := (0 : Int32)) C xd_R_alike_41 (by decide) ?_
    cases hm
    exact aw_zret C (by decide) xd_R_alike_42
  · rw [if_neg c_6] at hm
    refine aw_aload_n C 0 xd_R_alike_9 rfl rfl ?_
    refine aw_get C 0 (by decide) rfl rfl (fun w h => List.mem_cons_of_mem _ (xi_R w h)) 1 (by decide) rfl (List.mem_cons_of_mem _ fl_R_13) xd_R_alike_10 ?_
    refine aw_iload_n C 1 xd_R_alike_13 rfl rfl ?_
    obtain ⟨g_14, hm⟩ := aw_grd hm
    refine aw_iald C 2 (by decide) 0 rfl rfl (aw_in_ok g_14) xd_R_alike_14 ?_
    refine aw_aload_n C 0 xd_R_alike_15 rfl rfl ?_
    refine aw_get C 0 (by decide) rfl rfl (fun w h => List.mem_cons_of_mem _ (xi_R w h)) 1 (by decide) rfl (List.mem_cons_of_mem _ fl_R_13) xd_R_alike_16 ?_
    refine aw_bipush (v := (12 : Int32)) C xd_R_alike_19 (by decide) ?_
    refine aw_iald C 2 (by decide) 0 rfl rfl (aw_in_ok rfl) xd_R_alike_21 ?_
    refine aw_icmp_ne (tgt := 41) C xd_R_alike_22 (by decide) (fun c_22 => ?_) (fun c_22 => ?_)
    · rw [if_neg c_22] at hm
      refine aw_iconst (v := (0 : Int32)) C xd_R_alike_41 (by decide) ?_
      cases hm
      exact aw_zret C (by decide) xd_R_alike_42
    · rw [if_pos c_22] at hm
      refine aw_aload_n C 0 xd_R_alike_25 rfl rfl ?_
      refine aw_get C 0 (by decide) rfl rfl (fun w h => List.mem_cons_of_mem _ (xi_R w h)) 2 (by decide) rfl (List.mem_cons_of_mem _ fl_R_16) xd_R_alike_26 ?_
      refine aw_iload_n C 1 xd_R_alike_29 rfl rfl ?_
      obtain ⟨g_30, hm⟩ := aw_grd hm
      refine aw_iald C 3 (by decide) 0 rfl rfl (aw_in_ok g_30) xd_R_alike_30 ?_
      refine aw_aload_n C 0 xd_R_alike_31 rfl rfl ?_
      refine aw_get C 0 (by decide) rfl rfl (fun w h => List.mem_cons_of_mem _ (xi_R w h)) 2 (by decide) rfl (List.mem_cons_of_mem _ fl_R_16) xd_R_alike_32 ?_
      refine aw_bipush (v := (12 : Int32)) C xd_R_alike_35 (by decide) ?_
      refine aw_iald C 3 (by decide) 0 rfl rfl (aw_in_ok rfl) xd_R_alike_37 ?_
      refine aw_icmp_eq (tgt := 43) C xd_R_alike_38 (by decide) (fun c_38 => ?_) (fun c_38 => ?_)
      · rw [if_pos c_38] at hm
        refine aw_iconst (v := (0 : Int32)) C xd_R_alike_43 (by decide) ?_
        refine aw_istore_n (L' := [(2, .int (0 : Int32)), (0, .ref (ad 0)), (1, .int a1)]) C xd_R_alike_44 rfl (by decide) rfl ?_
        refine aw_loc (L' := [(0, .ref (ad 0)), (1, .int a1), (2, .int (0 : Int32))]) C [1, 2, 0] rfl ?_
        exact xl_R_alike_45 σ _ C 64 a1 (0 : Int32)  hm
      · rw [if_neg c_38] at hm
        refine aw_iconst (v := (0 : Int32)) C xd_R_alike_41 (by decide) ?_
        cases hm
        exact aw_zret C (by decide) xd_R_alike_42
end
