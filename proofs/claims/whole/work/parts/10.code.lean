theorem xd_C_clear_0 : decode xb_C_clear 0 = .ok (.aload_n 0, 1) := by decide +kernel
theorem xd_C_clear_1 : decode xb_C_clear 1 = .ok (.iload_n 1, 1) := by decide +kernel
theorem xd_C_clear_2 : decode xb_C_clear 2 = .ok (.putfield 27, 3) := by decide +kernel
theorem xd_C_clear_5 : decode xb_C_clear 5 = .ok (.aload_n 0, 1) := by decide +kernel
theorem xd_C_clear_6 : decode xb_C_clear 6 = .ok (.iconst 0, 1) := by decide +kernel
theorem xd_C_clear_7 : decode xb_C_clear 7 = .ok (.putfield 31, 3) := by decide +kernel
theorem xd_C_clear_10 : decode xb_C_clear 10 = .ok (.return_, 1) := by decide +kernel
theorem xd_C_addProcedure_0 : decode xb_C_addProcedure 0 = .ok (.aload_n 0, 1) := by decide +kernel
theorem xd_C_addProcedure_1 : decode xb_C_addProcedure 1 = .ok (.getfield 31, 3) := by decide +kernel
theorem xd_C_addProcedure_4 : decode xb_C_addProcedure 4 = .ok (.iconst 3, 1) := by decide +kernel
theorem xd_C_addProcedure_5 : decode xb_C_addProcedure 5 = .ok (.if_icmp .lt 6, 3) := by decide +kernel
theorem xd_C_addProcedure_8 : decode xb_C_addProcedure 8 = .ok (.bipush (-2), 2) := by decide +kernel
theorem xd_C_addProcedure_10 : decode xb_C_addProcedure 10 = .ok (.ireturn, 1) := by decide +kernel
theorem xd_C_addProcedure_11 : decode xb_C_addProcedure 11 = .ok (.aload_n 0, 1) := by decide +kernel
theorem xd_C_addProcedure_12 : decode xb_C_addProcedure 12 = .ok (.getfield 9, 3) := by decide +kernel
theorem xd_C_addProcedure_15 : decode xb_C_addProcedure 15 = .ok (.aload_n 0, 1) := by decide +kernel
theorem xd_C_addProcedure_16 : decode xb_C_addProcedure 16 = .ok (.getfield 31, 3) := by decide +kernel
theorem xd_C_addProcedure_19 : decode xb_C_addProcedure 19 = .ok (.iload_n 1, 1) := by decide +kernel
theorem xd_C_addProcedure_20 : decode xb_C_addProcedure 20 = .ok (.iastore, 1) := by decide +kernel
theorem xd_C_addProcedure_21 : decode xb_C_addProcedure 21 = .ok (.aload_n 0, 1) := by decide +kernel
theorem xd_C_addProcedure_22 : decode xb_C_addProcedure 22 = .ok (.getfield 15, 3) := by decide +kernel
theorem xd_C_addProcedure_25 : decode xb_C_addProcedure 25 = .ok (.aload_n 0, 1) := by decide +kernel
theorem xd_C_addProcedure_26 : decode xb_C_addProcedure 26 = .ok (.getfield 31, 3) := by decide +kernel
theorem xd_C_addProcedure_29 : decode xb_C_addProcedure 29 = .ok (.iconst 0, 1) := by decide +kernel
theorem xd_C_addProcedure_30 : decode xb_C_addProcedure 30 = .ok (.iastore, 1) := by decide +kernel
theorem xd_C_addProcedure_31 : decode xb_C_addProcedure 31 = .ok (.aload_n 0, 1) := by decide +kernel
theorem xd_C_addProcedure_32 : decode xb_C_addProcedure 32 = .ok (.dup, 1) := by decide +kernel
theorem xd_C_addProcedure_33 : decode xb_C_addProcedure 33 = .ok (.getfield 31, 3) := by decide +kernel
theorem xd_C_addProcedure_36 : decode xb_C_addProcedure 36 = .ok (.iconst 1, 1) := by decide +kernel
theorem xd_C_addProcedure_37 : decode xb_C_addProcedure 37 = .ok (.iadd, 1) := by decide +kernel
theorem xd_C_addProcedure_38 : decode xb_C_addProcedure 38 = .ok (.putfield 31, 3) := by decide +kernel
theorem xd_C_addProcedure_41 : decode xb_C_addProcedure 41 = .ok (.aload_n 0, 1) := by decide +kernel
theorem xd_C_addProcedure_42 : decode xb_C_addProcedure 42 = .ok (.getfield 31, 3) := by decide +kernel
theorem xd_C_addProcedure_45 : decode xb_C_addProcedure 45 = .ok (.iconst 1, 1) := by decide +kernel
theorem xd_C_addProcedure_46 : decode xb_C_addProcedure 46 = .ok (.isub, 1) := by decide +kernel
theorem xd_C_addProcedure_47 : decode xb_C_addProcedure 47 = .ok (.ireturn, 1) := by decide +kernel
theorem xd_C_cellOf_0 : decode xb_C_cellOf 0 = .ok (.iload_n 1, 1) := by decide +kernel
theorem xd_C_cellOf_1 : decode xb_C_cellOf 1 = .ok (.bipush 14, 2) := by decide +kernel
theorem xd_C_cellOf_3 : decode xb_C_cellOf 3 = .ok (.imul, 1) := by decide +kernel
theorem xd_C_cellOf_4 : decode xb_C_cellOf 4 = .ok (.iload_n 2, 1) := by decide +kernel
theorem xd_C_cellOf_5 : decode xb_C_cellOf 5 = .ok (.iadd, 1) := by decide +kernel
theorem xd_C_cellOf_6 : decode xb_C_cellOf 6 = .ok (.ireturn, 1) := by decide +kernel
theorem xd_C_addToken_0 : decode xb_C_addToken 0 = .ok (.aload_n 0, 1) := by decide +kernel
theorem xd_C_addToken_1 : decode xb_C_addToken 1 = .ok (.getfield 31, 3) := by decide +kernel
theorem xd_C_addToken_4 : decode xb_C_addToken 4 = .ok (.ifCond .ne 5, 3) := by decide +kernel
theorem xd_C_addToken_7 : decode xb_C_addToken 7 = .ok (.iconst (-1), 1) := by decide +kernel
theorem xd_C_addToken_8 : decode xb_C_addToken 8 = .ok (.ireturn, 1) := by decide +kernel
theorem xd_C_addToken_9 : decode xb_C_addToken 9 = .ok (.aload_n 0, 1) := by decide +kernel
theorem xd_C_addToken_10 : decode xb_C_addToken 10 = .ok (.getfield 31, 3) := by decide +kernel
theorem xd_C_addToken_13 : decode xb_C_addToken 13 = .ok (.iconst 1, 1) := by decide +kernel
theorem xd_C_addToken_14 : decode xb_C_addToken 14 = .ok (.isub, 1) := by decide +kernel
theorem xd_C_addToken_15 : decode xb_C_addToken 15 = .ok (.istore 4, 2) := by decide +kernel
theorem xd_C_addToken_17 : decode xb_C_addToken 17 = .ok (.aload_n 0, 1) := by decide +kernel
theorem xd_C_addToken_18 : decode xb_C_addToken 18 = .ok (.getfield 15, 3) := by decide +kernel
theorem xd_C_addToken_21 : decode xb_C_addToken 21 = .ok (.iload 4, 2) := by decide +kernel
theorem xd_C_addToken_23 : decode xb_C_addToken 23 = .ok (.iaload, 1) := by decide +kernel
theorem xd_C_addToken_24 : decode xb_C_addToken 24 = .ok (.bipush 14, 2) := by decide +kernel
theorem xd_C_addToken_26 : decode xb_C_addToken 26 = .ok (.if_icmp .lt 6, 3) := by decide +kernel
theorem xd_C_addToken_29 : decode xb_C_addToken 29 = .ok (.bipush (-2), 2) := by decide +kernel
theorem xd_C_addToken_31 : decode xb_C_addToken 31 = .ok (.ireturn, 1) := by decide +kernel
theorem xd_C_addToken_32 : decode xb_C_addToken 32 = .ok (.aload_n 0, 1) := by decide +kernel
theorem xd_C_addToken_33 : decode xb_C_addToken 33 = .ok (.iload 4, 2) := by decide +kernel
theorem xd_C_addToken_35 : decode xb_C_addToken 35 = .ok (.aload_n 0, 1) := by decide +kernel
theorem xd_C_addToken_36 : decode xb_C_addToken 36 = .ok (.getfield 15, 3) := by decide +kernel
theorem xd_C_addToken_39 : decode xb_C_addToken 39 = .ok (.iload 4, 2) := by decide +kernel
theorem xd_C_addToken_41 : decode xb_C_addToken 41 = .ok (.iaload, 1) := by decide +kernel
theorem xd_C_addToken_42 : decode xb_C_addToken 42 = .ok (.invokevirtual 34, 3) := by decide +kernel
theorem xd_C_addToken_45 : decode xb_C_addToken 45 = .ok (.istore 5, 2) := by decide +kernel
theorem xd_C_addToken_47 : decode xb_C_addToken 47 = .ok (.aload_n 0, 1) := by decide +kernel
theorem xd_C_addToken_48 : decode xb_C_addToken 48 = .ok (.getfield 18, 3) := by decide +kernel
theorem xd_C_addToken_51 : decode xb_C_addToken 51 = .ok (.iload 5, 2) := by decide +kernel
theorem xd_C_addToken_53 : decode xb_C_addToken 53 = .ok (.iload_n 1, 1) := by decide +kernel
theorem xd_C_addToken_54 : decode xb_C_addToken 54 = .ok (.iastore, 1) := by decide +kernel
theorem xd_C_addToken_55 : decode xb_C_addToken 55 = .ok (.aload_n 0, 1) := by decide +kernel
theorem xd_C_addToken_56 : decode xb_C_addToken 56 = .ok (.getfield 21, 3) := by decide +kernel
theorem xd_C_addToken_59 : decode xb_C_addToken 59 = .ok (.iload 5, 2) := by decide +kernel
theorem xd_C_addToken_61 : decode xb_C_addToken 61 = .ok (.iload_n 2, 1) := by decide +kernel
theorem xd_C_addToken_62 : decode xb_C_addToken 62 = .ok (.iastore, 1) := by decide +kernel
theorem xd_C_addToken_63 : decode xb_C_addToken 63 = .ok (.aload_n 0, 1) := by decide +kernel
theorem xd_C_addToken_64 : decode xb_C_addToken 64 = .ok (.getfield 24, 3) := by decide +kernel
theorem xd_C_addToken_67 : decode xb_C_addToken 67 = .ok (.iload 5, 2) := by decide +kernel
theorem xd_C_addToken_69 : decode xb_C_addToken 69 = .ok (.iload_n 3, 1) := by decide +kernel
theorem xd_C_addToken_70 : decode xb_C_addToken 70 = .ok (.iastore, 1) := by decide +kernel
theorem xd_C_addToken_71 : decode xb_C_addToken 71 = .ok (.aload_n 0, 1) := by decide +kernel
theorem xd_C_addToken_72 : decode xb_C_addToken 72 = .ok (.getfield 15, 3) := by decide +kernel
theorem xd_C_addToken_75 : decode xb_C_addToken 75 = .ok (.iload 4, 2) := by decide +kernel
theorem xd_C_addToken_77 : decode xb_C_addToken 77 = .ok (.dup2, 1) := by decide +kernel
theorem xd_C_addToken_78 : decode xb_C_addToken 78 = .ok (.iaload, 1) := by decide +kernel
theorem xd_C_addToken_79 : decode xb_C_addToken 79 = .ok (.iconst 1, 1) := by decide +kernel
theorem xd_C_addToken_80 : decode xb_C_addToken 80 = .ok (.iadd, 1) := by decide +kernel
theorem xd_C_addToken_81 : decode xb_C_addToken 81 = .ok (.iastore, 1) := by decide +kernel
theorem xd_C_addToken_82 : decode xb_C_addToken 82 = .ok (.aload_n 0, 1) := by decide +kernel
theorem xd_C_addToken_83 : decode xb_C_addToken 83 = .ok (.getfield 15, 3) := by decide +kernel
theorem xd_C_addToken_86 : decode xb_C_addToken 86 = .ok (.iload 4, 2) := by decide +kernel
theorem xd_C_addToken_88 : decode xb_C_addToken 88 = .ok (.iaload, 1) := by decide +kernel
theorem xd_C_addToken_89 : decode xb_C_addToken 89 = .ok (.ireturn, 1) := by decide +kernel
theorem xd_C_hasProcedure_0 : decode xb_C_hasProcedure 0 = .ok (.iload_n 1, 1) := by decide +kernel
theorem xd_C_hasProcedure_1 : decode xb_C_hasProcedure 1 = .ok (.ifCond .lt 15, 3) := by decide +kernel
theorem xd_C_hasProcedure_4 : decode xb_C_hasProcedure 4 = .ok (.iload_n 1, 1) := by decide +kernel
theorem xd_C_hasProcedure_5 : decode xb_C_hasProcedure 5 = .ok (.aload_n 0, 1) := by decide +kernel
theorem xd_C_hasProcedure_6 : decode xb_C_hasProcedure 6 = .ok (.getfield 31, 3) := by decide +kernel
theorem xd_C_hasProcedure_9 : decode xb_C_hasProcedure 9 = .ok (.if_icmp .ge 7, 3) := by decide +kernel
theorem xd_C_hasProcedure_12 : decode xb_C_hasProcedure 12 = .ok (.iconst 1, 1) := by decide +kernel
theorem xd_C_hasProcedure_13 : decode xb_C_hasProcedure 13 = .ok (.goto 4, 3) := by decide +kernel
theorem xd_C_hasProcedure_16 : decode xb_C_hasProcedure 16 = .ok (.iconst 0, 1) := by decide +kernel
theorem xd_C_hasProcedure_17 : decode xb_C_hasProcedure 17 = .ok (.ireturn, 1) := by decide +kernel
theorem xd_C_hasVariable_0 : decode xb_C_hasVariable 0 = .ok (.iload_n 1, 1) := by decide +kernel
theorem xd_C_hasVariable_1 : decode xb_C_hasVariable 1 = .ok (.ifCond .lt 15, 3) := by decide +kernel
theorem xd_C_hasVariable_4 : decode xb_C_hasVariable 4 = .ok (.iload_n 1, 1) := by decide +kernel
theorem xd_C_hasVariable_5 : decode xb_C_hasVariable 5 = .ok (.aload_n 0, 1) := by decide +kernel
theorem xd_C_hasVariable_6 : decode xb_C_hasVariable 6 = .ok (.getfield 27, 3) := by decide +kernel
theorem xd_C_hasVariable_9 : decode xb_C_hasVariable 9 = .ok (.if_icmp .ge 7, 3) := by decide +kernel
theorem xd_C_hasVariable_12 : decode xb_C_hasVariable 12 = .ok (.iconst 1, 1) := by decide +kernel
theorem xd_C_hasVariable_13 : decode xb_C_hasVariable 13 = .ok (.goto 4, 3) := by decide +kernel
theorem xd_C_hasVariable_16 : decode xb_C_hasVariable 16 = .ok (.iconst 0, 1) := by decide +kernel
theorem xd_C_hasVariable_17 : decode xb_C_hasVariable 17 = .ok (.ireturn, 1) := by decide +kernel
theorem xd_C_argumentsOf_0 : decode xb_C_argumentsOf 0 = .ok (.aload_n 0, 1) := by decide +kernel
theorem xd_C_argumentsOf_1 : decode xb_C_argumentsOf 1 = .ok (.iload_n 1, 1) := by decide +kernel
theorem xd_C_argumentsOf_2 : decode xb_C_argumentsOf 2 = .ok (.invokevirtual 38, 3) := by decide +kernel
theorem xd_C_argumentsOf_5 : decode xb_C_argumentsOf 5 = .ok (.ifCond .eq 12, 3) := by decide +kernel
theorem xd_C_argumentsOf_8 : decode xb_C_argumentsOf 8 = .ok (.aload_n 0, 1) := by decide +kernel
theorem xd_C_argumentsOf_9 : decode xb_C_argumentsOf 9 = .ok (.getfield 9, 3) := by decide +kernel
theorem xd_C_argumentsOf_12 : decode xb_C_argumentsOf 12 = .ok (.iload_n 1, 1) := by decide +kernel
theorem xd_C_argumentsOf_13 : decode xb_C_argumentsOf 13 = .ok (.iaload, 1) := by decide +kernel
theorem xd_C_argumentsOf_14 : decode xb_C_argumentsOf 14 = .ok (.goto 4, 3) := by decide +kernel
theorem xd_C_argumentsOf_17 : decode xb_C_argumentsOf 17 = .ok (.iconst (-1), 1) := by decide +kernel
theorem xd_C_argumentsOf_18 : decode xb_C_argumentsOf 18 = .ok (.ireturn, 1) := by decide +kernel
theorem xd_C_lengthOf_0 : decode xb_C_lengthOf 0 = .ok (.aload_n 0, 1) := by decide +kernel
theorem xd_C_lengthOf_1 : decode xb_C_lengthOf 1 = .ok (.iload_n 1, 1) := by decide +kernel
theorem xd_C_lengthOf_2 : decode xb_C_lengthOf 2 = .ok (.invokevirtual 38, 3) := by decide +kernel
theorem xd_C_lengthOf_5 : decode xb_C_lengthOf 5 = .ok (.ifCond .eq 12, 3) := by decide +kernel
theorem xd_C_lengthOf_8 : decode xb_C_lengthOf 8 = .ok (.aload_n 0, 1) := by decide +kernel
theorem xd_C_lengthOf_9 : decode xb_C_lengthOf 9 = .ok (.getfield 15, 3) := by decide +kernel
theorem xd_C_lengthOf_12 : decode xb_C_lengthOf 12 = .ok (.iload_n 1, 1) := by decide +kernel
theorem xd_C_lengthOf_13 : decode xb_C_lengthOf 13 = .ok (.iaload, 1) := by decide +kernel
theorem xd_C_lengthOf_14 : decode xb_C_lengthOf 14 = .ok (.goto 4, 3) := by decide +kernel
theorem xd_C_lengthOf_17 : decode xb_C_lengthOf 17 = .ok (.iconst 0, 1) := by decide +kernel
theorem xd_C_lengthOf_18 : decode xb_C_lengthOf 18 = .ok (.ireturn, 1) := by decide +kernel
theorem xd_C_size_0 : decode xb_C_size 0 = .ok (.aload_n 0, 1) := by decide +kernel
theorem xd_C_size_1 : decode xb_C_size 1 = .ok (.getfield 27, 3) := by decide +kernel
theorem xd_C_size_4 : decode xb_C_size 4 = .ok (.istore_n 1, 1) := by decide +kernel
theorem xd_C_size_5 : decode xb_C_size 5 = .ok (.iconst 0, 1) := by decide +kernel
theorem xd_C_size_6 : decode xb_C_size 6 = .ok (.istore_n 2, 1) := by decide +kernel
theorem xd_C_size_7 : decode xb_C_size 7 = .ok (.iload_n 2, 1) := by decide +kernel
theorem xd_C_size_8 : decode xb_C_size 8 = .ok (.aload_n 0, 1) := by decide +kernel
theorem xd_C_size_9 : decode xb_C_size 9 = .ok (.getfield 31, 3) := by decide +kernel
theorem xd_C_size_12 : decode xb_C_size 12 = .ok (.if_icmp .ge 18, 3) := by decide +kernel
theorem xd_C_size_15 : decode xb_C_size 15 = .ok (.iload_n 1, 1) := by decide +kernel
theorem xd_C_size_16 : decode xb_C_size 16 = .ok (.aload_n 0, 1) := by decide +kernel
theorem xd_C_size_17 : decode xb_C_size 17 = .ok (.getfield 15, 3) := by decide +kernel
theorem xd_C_size_20 : decode xb_C_size 20 = .ok (.iload_n 2, 1) := by decide +kernel
theorem xd_C_size_21 : decode xb_C_size 21 = .ok (.iaload, 1) := by decide +kernel
theorem xd_C_size_22 : decode xb_C_size 22 = .ok (.iadd, 1) := by decide +kernel
theorem xd_C_size_23 : decode xb_C_size 23 = .ok (.istore_n 1, 1) := by decide +kernel
theorem xd_C_size_24 : decode xb_C_size 24 = .ok (.iinc 2 1, 3) := by decide +kernel
theorem xd_C_size_27 : decode xb_C_size 27 = .ok (.goto (-20), 3) := by decide +kernel
theorem xd_C_size_30 : decode xb_C_size 30 = .ok (.iload_n 1, 1) := by decide +kernel
theorem xd_C_size_31 : decode xb_C_size 31 = .ok (.ireturn, 1) := by decide +kernel
theorem xd_C_hasInterfaceOf_0 : decode xb_C_hasInterfaceOf 0 = .ok (.aload_n 0, 1) := by decide +kernel
theorem xd_C_hasInterfaceOf_1 : decode xb_C_hasInterfaceOf 1 = .ok (.getfield 27, 3) := by decide +kernel
theorem xd_C_hasInterfaceOf_4 : decode xb_C_hasInterfaceOf 4 = .ok (.aload_n 1, 1) := by decide +kernel
theorem xd_C_hasInterfaceOf_5 : decode xb_C_hasInterfaceOf 5 = .ok (.getfield 27, 3) := by decide +kernel
theorem xd_C_hasInterfaceOf_8 : decode xb_C_hasInterfaceOf 8 = .ok (.if_icmp .ne 14, 3) := by decide +kernel
theorem xd_C_hasInterfaceOf_11 : decode xb_C_hasInterfaceOf 11 = .ok (.aload_n 0, 1) := by decide +kernel
theorem xd_C_hasInterfaceOf_12 : decode xb_C_hasInterfaceOf 12 = .ok (.getfield 31, 3) := by decide +kernel
theorem xd_C_hasInterfaceOf_15 : decode xb_C_hasInterfaceOf 15 = .ok (.aload_n 1, 1) := by decide +kernel
theorem xd_C_hasInterfaceOf_16 : decode xb_C_hasInterfaceOf 16 = .ok (.getfield 31, 3) := by decide +kernel
theorem xd_C_hasInterfaceOf_19 : decode xb_C_hasInterfaceOf 19 = .ok (.if_icmp .eq 5, 3) := by decide +kernel
theorem xd_C_hasInterfaceOf_22 : decode xb_C_hasInterfaceOf 22 = .ok (.iconst 0, 1) := by decide +kernel
theorem xd_C_hasInterfaceOf_23 : decode xb_C_hasInterfaceOf 23 = .ok (.ireturn, 1) := by decide +kernel
theorem xd_C_hasInterfaceOf_24 : decode xb_C_hasInterfaceOf 24 = .ok (.iconst 0, 1) := by decide +kernel
theorem xd_C_hasInterfaceOf_25 : decode xb_C_hasInterfaceOf 25 = .ok (.istore_n 2, 1) := by decide +kernel
theorem xd_C_hasInterfaceOf_26 : decode xb_C_hasInterfaceOf 26 = .ok (.iload_n 2, 1) := by decide +kernel
theorem xd_C_hasInterfaceOf_27 : decode xb_C_hasInterfaceOf 27 = .ok (.aload_n 0, 1) := by decide +kernel
theorem xd_C_hasInterfaceOf_28 : decode xb_C_hasInterfaceOf 28 = .ok (.getfield 31, 3) := by decide +kernel
theorem xd_C_hasInterfaceOf_31 : decode xb_C_hasInterfaceOf 31 = .ok (.if_icmp .ge 26, 3) := by decide +kernel
theorem xd_C_hasInterfaceOf_34 : decode xb_C_hasInterfaceOf 34 = .ok (.aload_n 0, 1) := by decide +kernel
theorem xd_C_hasInterfaceOf_35 : decode xb_C_hasInterfaceOf 35 = .ok (.getfield 9, 3) := by decide +kernel
theorem xd_C_hasInterfaceOf_38 : decode xb_C_hasInterfaceOf 38 = .ok (.iload_n 2, 1) := by decide +kernel
theorem xd_C_hasInterfaceOf_39 : decode xb_C_hasInterfaceOf 39 = .ok (.iaload, 1) := by decide +kernel
theorem xd_C_hasInterfaceOf_40 : decode xb_C_hasInterfaceOf 40 = .ok (.aload_n 1, 1) := by decide +kernel
theorem xd_C_hasInterfaceOf_41 : decode xb_C_hasInterfaceOf 41 = .ok (.getfield 9, 3) := by decide +kernel
theorem xd_C_hasInterfaceOf_44 : decode xb_C_hasInterfaceOf 44 = .ok (.iload_n 2, 1) := by decide +kernel
theorem xd_C_hasInterfaceOf_45 : decode xb_C_hasInterfaceOf 45 = .ok (.iaload, 1) := by decide +kernel
theorem xd_C_hasInterfaceOf_46 : decode xb_C_hasInterfaceOf 46 = .ok (.if_icmp .eq 5, 3) := by decide +kernel
theorem xd_C_hasInterfaceOf_49 : decode xb_C_hasInterfaceOf 49 = .ok (.iconst 0, 1) := by decide +kernel
theorem xd_C_hasInterfaceOf_50 : decode xb_C_hasInterfaceOf 50 = .ok (.ireturn, 1) := by decide +kernel
theorem xd_C_hasInterfaceOf_51 : decode xb_C_hasInterfaceOf 51 = .ok (.iinc 2 1, 3) := by decide +kernel
theorem xd_C_hasInterfaceOf_54 : decode xb_C_hasInterfaceOf 54 = .ok (.goto (-28), 3) := by decide +kernel
theorem xd_C_hasInterfaceOf_57 : decode xb_C_hasInterfaceOf 57 = .ok (.iconst 1, 1) := by decide +kernel
theorem xd_C_hasInterfaceOf_58 : decode xb_C_hasInterfaceOf 58 = .ok (.ireturn, 1) := by decide +kernel
theorem xd_C_copyFrom_0 : decode xb_C_copyFrom 0 = .ok (.aload_n 0, 1) := by decide +kernel
theorem xd_C_copyFrom_1 : decode xb_C_copyFrom 1 = .ok (.aload_n 1, 1) := by decide +kernel
theorem xd_C_copyFrom_2 : decode xb_C_copyFrom 2 = .ok (.getfield 27, 3) := by decide +kernel
theorem xd_C_copyFrom_5 : decode xb_C_copyFrom 5 = .ok (.putfield 27, 3) := by decide +kernel
theorem xd_C_copyFrom_8 : decode xb_C_copyFrom 8 = .ok (.aload_n 0, 1) := by decide +kernel
theorem xd_C_copyFrom_9 : decode xb_C_copyFrom 9 = .ok (.aload_n 1, 1) := by decide +kernel
theorem xd_C_copyFrom_10 : decode xb_C_copyFrom 10 = .ok (.getfield 31, 3) := by decide +kernel
theorem xd_C_copyFrom_13 : decode xb_C_copyFrom 13 = .ok (.putfield 31, 3) := by decide +kernel
theorem xd_C_copyFrom_16 : decode xb_C_copyFrom 16 = .ok (.aload_n 1, 1) := by decide +kernel
theorem xd_C_copyFrom_17 : decode xb_C_copyFrom 17 = .ok (.getfield 9, 3) := by decide +kernel
theorem xd_C_copyFrom_20 : decode xb_C_copyFrom 20 = .ok (.iconst 0, 1) := by decide +kernel
theorem xd_C_copyFrom_21 : decode xb_C_copyFrom 21 = .ok (.aload_n 0, 1) := by decide +kernel
theorem xd_C_copyFrom_22 : decode xb_C_copyFrom 22 = .ok (.getfield 9, 3) := by decide +kernel
theorem xd_C_copyFrom_25 : decode xb_C_copyFrom 25 = .ok (.iconst 0, 1) := by decide +kernel
theorem xd_C_copyFrom_26 : decode xb_C_copyFrom 26 = .ok (.aload_n 0, 1) := by decide +kernel
theorem xd_C_copyFrom_27 : decode xb_C_copyFrom 27 = .ok (.getfield 9, 3) := by decide +kernel
theorem xd_C_copyFrom_30 : decode xb_C_copyFrom 30 = .ok (.arraylength, 1) := by decide +kernel
theorem xd_C_copyFrom_31 : decode xb_C_copyFrom 31 = .ok (.invokestatic 42, 3) := by decide +kernel
theorem xd_C_copyFrom_34 : decode xb_C_copyFrom 34 = .ok (.aload_n 1, 1) := by decide +kernel
theorem xd_C_copyFrom_35 : decode xb_C_copyFrom 35 = .ok (.getfield 15, 3) := by decide +kernel
theorem xd_C_copyFrom_38 : decode xb_C_copyFrom 38 = .ok (.iconst 0, 1) := by decide +kernel
theorem xd_C_copyFrom_39 : decode xb_C_copyFrom 39 = .ok (.aload_n 0, 1) := by decide +kernel
theorem xd_C_copyFrom_40 : decode xb_C_copyFrom 40 = .ok (.getfield 15, 3) := by decide +kernel
theorem xd_C_copyFrom_43 : decode xb_C_copyFrom 43 = .ok (.iconst 0, 1) := by decide +kernel
theorem xd_C_copyFrom_44 : decode xb_C_copyFrom 44 = .ok (.aload_n 0, 1) := by decide +kernel
theorem xd_C_copyFrom_45 : decode xb_C_copyFrom 45 = .ok (.getfield 15, 3) := by decide +kernel
theorem xd_C_copyFrom_48 : decode xb_C_copyFrom 48 = .ok (.arraylength, 1) := by decide +kernel
theorem xd_C_copyFrom_49 : decode xb_C_copyFrom 49 = .ok (.invokestatic 42, 3) := by decide +kernel
theorem xd_C_copyFrom_52 : decode xb_C_copyFrom 52 = .ok (.aload_n 1, 1) := by decide +kernel
theorem xd_C_copyFrom_53 : decode xb_C_copyFrom 53 = .ok (.getfield 18, 3) := by decide +kernel
theorem xd_C_copyFrom_56 : decode xb_C_copyFrom 56 = .ok (.iconst 0, 1) := by decide +kernel
theorem xd_C_copyFrom_57 : decode xb_C_copyFrom 57 = .ok (.aload_n 0, 1) := by decide +kernel
theorem xd_C_copyFrom_58 : decode xb_C_copyFrom 58 = .ok (.getfield 18, 3) := by decide +kernel
theorem xd_C_copyFrom_61 : decode xb_C_copyFrom 61 = .ok (.iconst 0, 1) := by decide +kernel
theorem xd_C_copyFrom_62 : decode xb_C_copyFrom 62 = .ok (.aload_n 0, 1) := by decide +kernel
theorem xd_C_copyFrom_63 : decode xb_C_copyFrom 63 = .ok (.getfield 18, 3) := by decide +kernel
theorem xd_C_copyFrom_66 : decode xb_C_copyFrom 66 = .ok (.arraylength, 1) := by decide +kernel
theorem xd_C_copyFrom_67 : decode xb_C_copyFrom 67 = .ok (.invokestatic 42, 3) := by decide +kernel
theorem xd_C_copyFrom_70 : decode xb_C_copyFrom 70 = .ok (.aload_n 1, 1) := by decide +kernel
theorem xd_C_copyFrom_71 : decode xb_C_copyFrom 71 = .ok (.getfield 21, 3) := by decide +kernel
theorem xd_C_copyFrom_74 : decode xb_C_copyFrom 74 = .ok (.iconst 0, 1) := by decide +kernel
theorem xd_C_copyFrom_75 : decode xb_C_copyFrom 75 = .ok (.aload_n 0, 1) := by decide +kernel
theorem xd_C_copyFrom_76 : decode xb_C_copyFrom 76 = .ok (.getfield 21, 3) := by decide +kernel
theorem xd_C_copyFrom_79 : decode xb_C_copyFrom 79 = .ok (.iconst 0, 1) := by decide +kernel
theorem xd_C_copyFrom_80 : decode xb_C_copyFrom 80 = .ok (.aload_n 0, 1) := by decide +kernel
theorem xd_C_copyFrom_81 : decode xb_C_copyFrom 81 = .ok (.getfield 21, 3) := by decide +kernel
theorem xd_C_copyFrom_84 : decode xb_C_copyFrom 84 = .ok (.arraylength, 1) := by decide +kernel
theorem xd_C_copyFrom_85 : decode xb_C_copyFrom 85 = .ok (.invokestatic 42, 3) := by decide +kernel
theorem xd_C_copyFrom_88 : decode xb_C_copyFrom 88 = .ok (.aload_n 1, 1) := by decide +kernel
theorem xd_C_copyFrom_89 : decode xb_C_copyFrom 89 = .ok (.getfield 24, 3) := by decide +kernel
theorem xd_C_copyFrom_92 : decode xb_C_copyFrom 92 = .ok (.iconst 0, 1) := by decide +kernel
theorem xd_C_copyFrom_93 : decode xb_C_copyFrom 93 = .ok (.aload_n 0, 1) := by decide +kernel
theorem xd_C_copyFrom_94 : decode xb_C_copyFrom 94 = .ok (.getfield 24, 3) := by decide +kernel
theorem xd_C_copyFrom_97 : decode xb_C_copyFrom 97 = .ok (.iconst 0, 1) := by decide +kernel
theorem xd_C_copyFrom_98 : decode xb_C_copyFrom 98 = .ok (.aload_n 0, 1) := by decide +kernel
theorem xd_C_copyFrom_99 : decode xb_C_copyFrom 99 = .ok (.getfield 24, 3) := by decide +kernel
theorem xd_C_copyFrom_102 : decode xb_C_copyFrom 102 = .ok (.arraylength, 1) := by decide +kernel
theorem xd_C_copyFrom_103 : decode xb_C_copyFrom 103 = .ok (.invokestatic 42, 3) := by decide +kernel
theorem xd_C_copyFrom_106 : decode xb_C_copyFrom 106 = .ok (.return_, 1) := by decide +kernel
section
variable {l : Launch} {D : va_G} {ad : Nat → Nat} {ids : Nat → ClassId} {ps : Nat}
def xm_C_clear (σ : aw_m) (k0 : Nat) (a1 : Int32) : Option aw_m := aw_l (aw_p σ k0 0 a1) fun s_2 => aw_l (aw_p s_2 k0 1 (0 : Int32)) fun s_7 => some s_7
set_option maxHeartbeats 4000000 in
set_option maxRecDepth 100000 in
theorem xc_C_clear (σ : aw_m) (k0 : Nat) (a1 : Int32) (q : aw_m) (hk0 : kd_k k0 = 1) (hm : xm_C_clear σ k0 a1 = some q) : aw_M l D (ty_z ids) (zs_T ps) xy_C_clear (xw_C_clear :: gw_l) (rm_D (0)) [.ref (ad k0), .int a1] (cw_w ad ids σ) none (cw_w ad ids q) := by
  refine aw_intro (cc := xb_C_clear) (n := 2) (ret := none) "ModuleShelf$Code" rfl (by decide) rfl (Nat.le_of_ble_eq_true rfl) ?_
  intro κ C
  unfold xm_C_clear at hm
  refine aw_aload_n C 0 xd_C_clear_0 rfl rfl ?_
  refine aw_iload_n C 1 xd_C_clear_1 rfl rfl ?_
  obtain ⟨s_2, h_2, hm⟩ := aw_let hm
  refine aw_put (σ1 := s_2) (f := upd (σ k0) 0 a1) C k0 (kd_lt hk0) (ly_C hk0) rfl (fun w h => List.mem_cons_of_mem _ (xi_C w h)) xk_C xo_C xn_C 0 (by decide) (List.mem_cons_of_mem _ fl_C_27) rfl (ty := .int) (by decide +kernel) rfl rfl (Nat.le_of_ble_eq_true rfl) (ly_C hk0) h_2 xd_C_clear_2 ?_
  refine aw_aload_n C 0 xd_C_clear_5 rfl rfl ?_
  refine aw_iconst (v := (0 : Int32)) C xd_C_clear_6 (by decide) ?_
  obtain ⟨s_7, h_7, hm⟩ := aw_let hm
  refine aw_put (σ1 := s_7) (f := upd (s_2 k0) 1 (0 : Int32)) C k0 (kd_lt hk0) (ly_C hk0) rfl (fun w h => List.mem_cons_of_mem _ (xi_C w h)) xk_C xo_C xn_C 1 (by decide) (List.mem_cons_of_mem _ fl_C_31) rfl (ty := .int) (by decide +kernel) rfl rfl (Nat.le_of_ble_eq_true rfl) (ly_C hk0) h_7 xd_C_clear_7 ?_
  cases hm
  exact aw_vret C xd_C_clear_10
def xm_C_addProcedure (σ : aw_m) (k0 : Nat) (a1 : Int32) : Option (Int32 × aw_m) := (if σ k0 1 < (3 : Int32) then if aw_in (σ k0 1) 3 = true then aw_l (aw_p σ (k0 + 1) (Int32.toNatClampNeg (σ k0 1)) a1) fun s_20 => if aw_in (s_20 k0 1) 3 = true then aw_l (aw_p s_20 (k0 + 2) (Int32.toNatClampNeg (s_20 k0 1)) (0 : Int32)) fun s_30 => aw_l (aw_p s_30 k0 1 ((s_30 k0 1) + (1 : Int32))) fun s_38 => some ((s_38 k0 1) - (1 : Int32), s_38) else none else none else some ((-2 : Int32), σ))
set_option maxHeartbeats 4000000 in
set_option maxRecDepth 100000 in
theorem xc_C_addProcedure (σ : aw_m) (k0 : Nat) (a1 : Int32) (q : Int32 × aw_m) (hk0 : kd_k k0 = 1) (hm : xm_C_addProcedure σ k0 a1 = some q) : aw_M l D (ty_z ids) (zs_T ps) xy_C_addProcedure (xw_C_addProcedure :: gw_l) (rm_D (0)) [.ref (ad k0), .int a1] (cw_w ad ids σ) (some (.int q.1)) (cw_w ad ids q.2) := by
  refine aw_intro (cc := xb_C_addProcedure) (n := 2) (ret := (some .int)) "ModuleShelf$Code" rfl (by decide) rfl (Nat.le_of_ble_eq_true rfl) ?_
  intro κ C
  unfold xm_C_addProcedure at hm
  refine aw_aload_n C 0 xd_C_addProcedure_0 rfl rfl ?_
  refine aw_get C k0 (kd_lt hk0) (ly_C hk0) rfl (fun w h => List.mem_cons_of_mem _ (xi_C w h)) 1 (by decide) rfl (List.mem_cons_of_mem _ fl_C_31) xd_C_addProcedure_1 ?_
  refine aw_iconst (v := (3 : Int32)) C xd_C_addProcedure_4 (by decide) ?_
  refine aw_icmp_lt (tgt := 11) C xd_C_addProcedure_5 (by decide) (fun c_5 => ?_) (fun c_5 => ?_)
  · rw [if_pos c_5] at hm
    refine aw_aload_n C 0 xd_C_addProcedure_11 rfl rfl ?_
    refine aw_get C k0 (kd_lt hk0) (ly_C hk0) rfl (fun w h => List.mem_cons_of_mem _ (xi_C w h)) 2 (by decide) rfl (List.mem_cons_of_mem _ fl_C_9) xd_C_addProcedure_12 ?_
    refine aw_aload_n C 0 xd_C_addProcedure_15 rfl rfl ?_
    refine aw_get C k0 (kd_lt hk0) (ly_C hk0) rfl (fun w h => List.mem_cons_of_mem _ (xi_C w h)) 1 (by decide) rfl (List.mem_cons_of_mem _ fl_C_31) xd_C_addProcedure_16 ?_
    refine aw_iload_n C 1 xd_C_addProcedure_19 rfl rfl ?_
    obtain ⟨g_20, hm⟩ := aw_grd hm
    obtain ⟨s_20, h_20, hm⟩ := aw_let hm
    refine aw_iast (σ1 := s_20) (g := upd (σ (k0 + 1)) (Int32.toNatClampNeg (σ k0 1)) a1) C (k0 + 1) (kd_lt (kf_C_arguments hk0)) 0 (ly_A3 (kf_C_arguments hk0)) rfl (aw_in_ok g_20) (ly_A3 (kf_C_arguments hk0)) h_20 xd_C_addProcedure_20 ?_
    refine aw_aload_n C 0 xd_C_addProcedure_21 rfl rfl ?_
    refine aw_get C k0 (kd_lt hk0) (ly_C hk0) rfl (fun w h => List.mem_cons_of_mem _ (xi_C w h)) 3 (by decide) rfl (List.mem_cons_of_mem _ fl_C_15) xd_C_addProcedure_22 ?_
    refine aw_aload_n C 0 xd_C_addProcedure_25 rfl rfl ?_
    refine aw_get C k0 (kd_lt hk0) (ly_C hk0) rfl (fun w h => List.mem_cons_of_mem _ (xi_C w h)) 1 (by decide) rfl (List.mem_cons_of_mem _ fl_C_31) xd_C_addProcedure_26 ?_
    refine aw_iconst (v := (0 : Int32)) C xd_C_addProcedure_29 (by decide) ?_
    obtain ⟨g_30, hm⟩ := aw_grd hm
    obtain ⟨s_30, h_30, hm⟩ := aw_let hm
    refine aw_iast (σ1 := s_30) (g := upd (s_20 (k0 + 2)) (Int32.toNatClampNeg (s_20 k0 1)) (0 : Int32)) C (k0 + 2) (kd_lt (kf_C_lengths hk0)) 0 (ly_A3 (kf_C_lengths hk0)) rfl (aw_in_ok g_30) (ly_A3 (kf_C_lengths hk0)) h_30 xd_C_addProcedure_30 ?_
    refine aw_aload_n C 0 xd_C_addProcedure_31 rfl rfl ?_
    refine aw_dup C xd_C_addProcedure_32 rfl ?_
    refine aw_get C k0 (kd_lt hk0) (ly_C hk0) rfl (fun w h => List.mem_cons_of_mem _ (xi_C w h)) 1 (by decide) rfl (List.mem_cons_of_mem _ fl_C_31) xd_C_addProcedure_33 ?_
    refine aw_iconst (v := (1 : Int32)) C xd_C_addProcedure_36 (by decide) ?_
    refine aw_iadd C xd_C_addProcedure_37 ?_
    obtain ⟨s_38, h_38, hm⟩ := aw_let hm
    refine aw_put (σ1 := s_38) (f := upd (s_30 k0) 1 ((s_30 k0 1) + (1 : Int32))) C k0 (kd_lt hk0) (ly_C hk0) rfl (fun w h => List.mem_cons_of_mem _ (xi_C w h)) xk_C xo_C xn_C 1 (by decide) (List.mem_cons_of_mem _ fl_C_31) rfl (ty := .int) (by decide +kernel) rfl rfl (Nat.le_of_ble_eq_true rfl) (ly_C hk0) h_38 xd_C_addProcedure_38 ?_
    refine aw_aload_n C 0 xd_C_addProcedure_41 rfl rfl ?_
    refine aw_get C k0 (kd_lt hk0) (ly_C hk0) rfl (fun w h => List.mem_cons_of_mem _ (xi_C w h)) 1 (by decide) rfl (List.mem_cons_of_mem _ fl_C_31) xd_C_addProcedure_42 ?_
    refine aw_iconst (v := (1 : Int32)) C xd_C_addProcedure_45 (by decide) ?_
    refine aw_isub C xd_C_addProcedure_46 ?_
    cases hm
    exact aw_iret C xd_C_addProcedure_47
  · rw [if_neg c_5] at hm
    refine aw_bipush (v := (-2 : Int32)) C xd_C_addProcedure_8 (by decide) ?_
    cases hm
    exact aw_iret C xd_C_addProcedure_10
def xm_C_cellOf (σ : aw_m) (k0 : Nat) (a1 : Int32) (a2 : Int32) : Option Int32 := some ((a1 * (14 : Int32)) + a2)
set_option maxHeartbeats 4000000 in
set_option maxRecDepth 100000 in
theorem xc_C_cellOf (σ : aw_m) (k0 : Nat) (a1 : Int32) (a2 : Int32) (q : Int32) (hk0 : kd_k k0 = 1) (hm : xm_C_cellOf σ k0 a1 a2 = some q) : aw_M l D (ty_z ids) (zs_T ps) xy_C_cellOf (xw_C_cellOf :: gw_l) (rm_D (0)) [.ref (ad k0), .int a1, .int a2] (cw_w ad ids σ) (some (.int q)) (cw_w ad ids σ) := by
  refine aw_intro (cc := xb_C_cellOf) (n := 3) (ret := (some .int)) "ModuleShelf$Code" rfl (by decide) rfl (Nat.le_of_ble_eq_true rfl) ?_
  intro κ C
  unfold xm_C_cellOf at hm
  refine aw_iload_n C 1 xd_C_cellOf_0 rfl rfl ?_
  refine aw_bipush (v := (14 : Int32)) C xd_C_cellOf_1 (by decide) ?_
  refine aw_imul C xd_C_cellOf_3 ?_
  refine aw_iload_n C 2 xd_C_cellOf_4 rfl rfl ?_
  refine aw_iadd C xd_C_cellOf_5 ?_
  cases hm
  exact aw_iret C xd_C_cellOf_6
def xm_C_addToken (σ : aw_m) (k0 : Nat) (a1 : Int32) (a2 : Int32) (a3 : Int32) : Option (Int32 × aw_m) := (if σ k0 1 = 0 then some ((-1 : Int32), σ) else if aw_in ((σ k0 1) - (1 : Int32)) 3 = true then (if σ (k0 + 2) (Int32.toNatClampNeg ((σ k0 1) - (1 : Int32))) < (14 : Int32) then if aw_in ((σ k0 1) - (1 : Int32)) 3 = true then (xm_C_cellOf σ k0 ((σ k0 1) - (1 : Int32)) (σ (k0 + 2) (Int32.toNatClampNeg ((σ k0 1) - (1 : Int32))))).bind fun q_42 => if aw_in q_42 42 = true then aw_l (aw_p σ (k0 + 3) (Int32.toNatClampNeg q_42) a1) fun s_54 => if aw_in q_42 42 = true then aw_l (aw_p s_54 (k0 + 4) (Int32.toNatClampNeg q_42) a2) fun s_62 => if aw_in q_42 42 = true then aw_l (aw_p s_62 (k0 + 5) (Int32.toNatClampNeg q_42) a3) fun s_70 => if aw_in ((σ k0 1) - (1 : Int32)) 3 = true then if aw_in ((σ k0 1) - (1 : Int32)) 3 = true then aw_l (aw_p s_70 (k0 + 2) (Int32.toNatClampNeg ((σ k0 1) - (1 : Int32))) ((s_70 (k0 + 2) (Int32.toNatClampNeg ((σ k0 1) - (1 : Int32)))) + (1 : Int32))) fun s_81 => if aw_in ((σ k0 1) - (1 : Int32)) 3 = true then some (s_81 (k0 + 2) (Int32.toNatClampNeg ((σ k0 1) - (1 : Int32))), s_81) else none else none else none else none else none else none else none else some ((-2 : Int32), σ)) else none)
set_option maxHeartbeats 4000000 in
set_option maxRecDepth 100000 in
theorem xc_C_addToken (σ : aw_m) (k0 : Nat) (a1 : Int32) (a2 : Int32) (a3 : Int32) (q : Int32 × aw_m) (hk0 : kd_k k0 = 1) (hm : xm_C_addToken σ k0 a1 a2 a3 = some q) : aw_M l D (ty_z ids) (zs_T ps) xy_C_addToken (xw_C_addToken :: gw_l) (rm_D (1)) [.ref (ad k0), .int a1, .int a2, .int a3] (cw_w ad ids σ) (some (.int q.1)) (cw_w ad ids q.2) := by
  refine aw_intro (cc := xb_C_addToken) (n := 6) (ret := (some .int)) "ModuleShelf$Code" rfl (by decide) rfl (Nat.le_of_ble_eq_true rfl) ?_
  intro κ C
  unfold xm_C_addToken at hm
  refine aw_aload_n C 0 xd_C_addToken_0 rfl rfl ?_
  refine aw_get C k0 (kd_lt hk0) (ly_C hk0) rfl (fun w h => List.mem_cons_of_mem _ (xi_C w h)) 1 (by decide) rfl (List.mem_cons_of_mem _ fl_C_31) xd_C_addToken_1 ?_
  refine aw_if_ne (tgt := 9) C xd_C_addToken_4 (by decide) (fun c_4 => ?_) (fun c_4 => ?_)
  · rw [if_neg c_4] at hm
    refine aw_aload_n C 0 xd_C_addToken_9 rfl rfl ?_
    refine aw_get C k0 (kd_lt hk0) (ly_C hk0) rfl (fun w h => List.mem_cons_of_mem _ (xi_C w h)) 1 (by decide) rfl (List.mem_cons_of_mem _ fl_C_31) xd_C_addToken_10 ?_
    refine aw_iconst (v := (1 : Int32)) C xd_C_addToken_13 (by decide) ?_
    refine aw_isub C xd_C_addToken_14 ?_
    refine aw_istore (L' := [(4, .int ((σ k0 1) - (1 : Int32))), (0, .ref (ad k0)), (1, .int a1), (2, .int a2), (3, .int a3)]) C xd_C_addToken_15 (by decide) rfl ?_
    refine aw_aload_n C 1 xd_C_addToken_17 rfl rfl ?_
    refine aw_get C k0 (kd_lt hk0) (ly_C hk0) rfl (fun w h => List.mem_cons_of_mem _ (xi_C w h)) 3 (by decide) rfl (List.mem_cons_of_mem _ fl_C_15) xd_C_addToken_18 ?_
    refine aw_iload C 0 xd_C_addToken_21 rfl ?_
    obtain ⟨g_23, hm⟩ := aw_grd hm
    refine aw_iald C (k0 + 2) (kd_lt (kf_C_lengths hk0)) 0 (ly_A3 (kf_C_lengths hk0)) rfl (aw_in_ok g_23) xd_C_addToken_23 ?_
    refine aw_bipush (v := (14 : Int32)) C xd_C_addToken_24 (by decide) ?_
    refine aw_icmp_lt (tgt := 32) C xd_C_addToken_26 (by decide) (fun c_26 => ?_) (fun c_26 => ?_)
    · rw [if_pos c_26] at hm
      refine aw_aload_n C 1 xd_C_addToken_32 rfl rfl ?_
      refine aw_iload C 0 xd_C_addToken_33 rfl ?_
      refine aw_aload_n C 1 xd_C_addToken_35 rfl rfl ?_
      refine aw_get C k0 (kd_lt hk0) (ly_C hk0) rfl (fun w h => List.mem_cons_of_mem _ (xi_C w h)) 3 (by decide) rfl (List.mem_cons_of_mem _ fl_C_15) xd_C_addToken_36 ?_
      refine aw_iload C 0 xd_C_addToken_39 rfl ?_
      obtain ⟨g_41, hm⟩ := aw_grd hm
      refine aw_iald C (k0 + 2) (kd_lt (kf_C_lengths hk0)) 0 (ly_A3 (kf_C_lengths hk0)) rfl (aw_in_ok g_41) xd_C_addToken_41 ?_
      obtain ⟨q_42, e_42, hm⟩ := aw_bnd hm
      refine aw_callVi (As := [.int ((σ k0 1) - (1 : Int32)), .int (σ (k0 + 2) (Int32.toNatClampNeg ((σ k0 1) - (1 : Int32))))]) (rest := []) (b := ad k0) C (xc_C_cellOf σ k0 ((σ k0 1) - (1 : Int32)) (σ (k0 + 2) (Int32.toNatClampNeg ((σ k0 1) - (1 : Int32)))) _ hk0 e_42) rfl (gw_sub (gw_V xg_C_cellOf ml_C_34 im_C_cellOf se_C_cellOf wi_C)) na_C_cellOf (rm_lt (by decide) (by decide)) ⟨Nat.zero_le _, Nat.zero_le _⟩ k0 (at_C hk0) rfl rfl (Nat.le_of_ble_eq_true rfl) xd_C_addToken_42 ?_
      refine aw_istore (L' := [(5, .int q_42), (4, .int ((σ k0 1) - (1 : Int32))), (0, .ref (ad k0)), (1, .int a1), (2, .int a2), (3, .int a3)]) C xd_C_addToken_45 (by decide) rfl ?_
      refine aw_aload_n C 2 xd_C_addToken_47 rfl rfl ?_
      refine aw_get C k0 (kd_lt hk0) (ly_C hk0) rfl (fun w h => List.mem_cons_of_mem _ (xi_C w h)) 4 (by decide) rfl (List.mem_cons_of_mem _ fl_C_18) xd_C_addToken_48 ?_
      refine aw_iload C 0 xd_C_addToken_51 rfl ?_
      refine aw_iload_n C 3 xd_C_addToken_53 rfl rfl ?_
      obtain ⟨g_54, hm⟩ := aw_grd hm
      obtain ⟨s_54, h_54, hm⟩ := aw_let hm
      refine aw_iast (σ1 := s_54) (g := upd (σ (k0 + 3)) (Int32.toNatClampNeg q_42) a1) C (k0 + 3) (kd_lt (kf_C_ops hk0)) 0 (ly_A42 (kf_C_ops hk0)) rfl (aw_in_ok g_54) (ly_A42 (kf_C_ops hk0)) h_54 xd_C_addToken_54 ?_
      refine aw_aload_n C 2 xd_C_addToken_55 rfl rfl ?_
      refine aw_get C k0 (kd_lt hk0) (ly_C hk0) rfl (fun w h => List.mem_cons_of_mem _ (xi_C w h)) 5 (by decide) rfl (List.mem_cons_of_mem _ fl_C_21) xd_C_addToken_56 ?_
      refine aw_iload C 0 xd_C_addToken_59 rfl ?_
      refine aw_iload_n C 4 xd_C_addToken_61 rfl rfl ?_
      obtain ⟨g_62, hm⟩ := aw_grd hm
      obtain ⟨s_62, h_62, hm⟩ := aw_let hm
      refine aw_iast (σ1 := s_62) (g := upd (s_54 (k0 + 4)) (Int32.toNatClampNeg q_42) a2) C (k0 + 4) (kd_lt (kf_C_as hk0)) 0 (ly_A42 (kf_C_as hk0)) rfl (aw_in_ok g_62) (ly_A42 (kf_C_as hk0)) h_62 xd_C_addToken_62 ?_
      refine aw_aload_n C 2 xd_C_addToken_63 rfl rfl ?_
      refine aw_get C k0 (kd_lt hk0) (ly_C hk0) rfl (fun w h => List.mem_cons_of_mem _ (xi_C w h)) 6 (by decide) rfl (List.mem_cons_of_mem _ fl_C_24) xd_C_addToken_64 ?_
      refine aw_iload C 0 xd_C_addToken_67 rfl ?_
      refine aw_iload_n C 5 xd_C_addToken_69 rfl rfl ?_
      obtain ⟨g_70, hm⟩ := aw_grd hm
      obtain ⟨s_70, h_70, hm⟩ := aw_let hm
      refine aw_iast (σ1 := s_70) (g := upd (s_62 (k0 + 5)) (Int32.toNatClampNeg q_42) a3) C (k0 + 5) (kd_lt (kf_C_bs hk0)) 0 (ly_A42 (kf_C_bs hk0)) rfl (aw_in_ok g_70) (ly_A42 (kf_C_bs hk0)) h_70 xd_C_addToken_70 ?_
      refine aw_aload_n C 2 xd_C_addToken_71 rfl rfl ?_
      refine aw_get C k0 (kd_lt hk0) (ly_C hk0) rfl (fun w h => List.mem_cons_of_mem _ (xi_C w h)) 3 (by decide) rfl (List.mem_cons_of_mem _ fl_C_15) xd_C_addToken_72 ?_
      refine aw_iload C 1 xd_C_addToken_75 rfl ?_
      refine aw_dup2 C xd_C_addToken_77 rfl rfl ?_
      obtain ⟨g_78, hm⟩ := aw_grd hm
      refine aw_iald C (k0 + 2) (kd_lt (kf_C_lengths hk0)) 0 (ly_A3 (kf_C_lengths hk0)) rfl (aw_in_ok g_78) xd_C_addToken_78 ?_
      refine aw_iconst (v := (1 : Int32)) C xd_C_addToken_79 (by decide) ?_
      refine aw_iadd C xd_C_addToken_80 ?_
      obtain ⟨g_81, hm⟩ := aw_grd hm
      obtain ⟨s_81, h_81, hm⟩ := aw_let hm
      refine aw_iast (σ1 := s_81) (g := upd (s_70 (k0 + 2)) (Int32.toNatClampNeg ((σ k0 1) - (1 : Int32))) ((s_70 (k0 + 2) (Int32.toNatClampNeg ((σ k0 1) - (1 : Int32)))) + (1 : Int32))) C (k0 + 2) (kd_lt (kf_C_lengths hk0)) 0 (ly_A3 (kf_C_lengths hk0)) rfl (aw_in_ok g_81) (ly_A3 (kf_C_lengths hk0)) h_81 xd_C_addToken_81 ?_
      refine aw_aload_n C 2 xd_C_addToken_82 rfl rfl ?_
      refine aw_get C k0 (kd_lt hk0) (ly_C hk0) rfl (fun w h => List.mem_cons_of_mem _ (xi_C w h)) 3 (by decide) rfl (List.mem_cons_of_mem _ fl_C_15) xd_C_addToken_83 ?_
      refine aw_iload C 1 xd_C_addToken_86 rfl ?_
      obtain ⟨g_88, hm⟩ := aw_grd hm
      refine aw_iald C (k0 + 2) (kd_lt (kf_C_lengths hk0)) 0 (ly_A3 (kf_C_lengths hk0)) rfl (aw_in_ok g_88) xd_C_addToken_88 ?_
      cases hm
      exact aw_iret C xd_C_addToken_89
    · rw [if_neg c_26] at hm
      refine aw_bipush (v := (-2 : Int32)) C xd_C_addToken_29 (by decide) ?_
      cases hm
      exact aw_iret C xd_C_addToken_31
  · rw [if_pos c_4] at hm
    refine aw_iconst (v := (-1 : Int32)) C xd_C_addToken_7 (by decide) ?_
    cases hm
    exact aw_iret C xd_C_addToken_8
def xm_C_hasProcedure (σ : aw_m) (k0 : Nat) (a1 : Int32) : Option Int32 := (if a1 < 0 then some (0 : Int32) else (if σ k0 1 ≤ a1 then some (0 : Int32) else some (1 : Int32)))
set_option maxHeartbeats 4000000 in
set_option maxRecDepth 100000 in
theorem xc_C_hasProcedure (σ : aw_m) (k0 : Nat) (a1 : Int32) (q : Int32) (hk0 : kd_k k0 = 1) (hm : xm_C_hasProcedure σ k0 a1 = some q) : aw_M l D (ty_z ids) (zs_T ps) xy_C_hasProcedure (xw_C_hasProcedure :: gw_l) (rm_D (0)) [.ref (ad k0), .int a1] (cw_w ad ids σ) (some (.int q)) (cw_w ad ids σ) := by
  refine aw_intro (cc := xb_C_hasProcedure) (n := 2) (ret := (some .boolean)) "ModuleShelf$Code" rfl (by decide) rfl (Nat.le_of_ble_eq_true rfl) ?_
  intro κ C
  unfold xm_C_hasProcedure at hm
  refine aw_iload_n C 1 xd_C_hasProcedure_0 rfl rfl ?_
  refine aw_if_lt (tgt := 16) C xd_C_hasProcedure_1 (by decide) (fun c_1 => ?_) (fun c_1 => ?_)
  · rw [if_pos c_1] at hm
    refine aw_iconst (v := (0 : Int32)) C xd_C_hasProcedure_16 (by decide) ?_
    cases hm
    exact aw_zret C (by decide) xd_C_hasProcedure_17
  · rw [if_neg c_1] at hm
    refine aw_iload_n C 1 xd_C_hasProcedure_4 rfl rfl ?_
    refine aw_aload_n C 0 xd_C_hasProcedure_5 rfl rfl ?_
    refine aw_get C k0 (kd_lt hk0) (ly_C hk0) rfl (fun w h => List.mem_cons_of_mem _ (xi_C w h)) 1 (by decide) rfl (List.mem_cons_of_mem _ fl_C_31) xd_C_hasProcedure_6 ?_
    refine aw_icmp_ge (tgt := 16) C xd_C_hasProcedure_9 (by decide) (fun c_9 => ?_) (fun c_9 => ?_)
    · rw [if_pos c_9] at hm
      refine aw_iconst (v := (0 : Int32)) C xd_C_hasProcedure_16 (by decide) ?_
      cases hm
      exact aw_zret C (by decide) xd_C_hasProcedure_17
    · rw [if_neg c_9] at hm
      refine aw_iconst (v := (1 : Int32)) C xd_C_hasProcedure_12 (by decide) ?_
      refine aw_goto (tgt := 17) C xd_C_hasProcedure_13 (by decide) ?_
      cases hm
      exact aw_zret C (by decide) xd_C_hasProcedure_17
def xm_C_hasVariable (σ : aw_m) (k0 : Nat) (a1 : Int32) : Option Int32 := (if a1 < 0 then some (0 : Int32) else (if σ k0 0 ≤ a1 then some (0 : Int32) else some (1 : Int32)))
set_option maxHeartbeats 4000000 in
set_option maxRecDepth 100000 in
theorem xc_C_hasVariable (σ : aw_m) (k0 : Nat) (a1 : Int32) (q : Int32) (hk0 : kd_k k0 = 1) (hm : xm_C_hasVariable σ k0 a1 = some q) : aw_M l D (ty_z ids) (zs_T ps) xy_C_hasVariable (xw_C_hasVariable :: gw_l) (rm_D (0)) [.ref (ad k0), .int a1] (cw_w ad ids σ) (some (.int q)) (cw_w ad ids σ) := by
  refine aw_intro (cc := xb_C_hasVariable) (n := 2) (ret := (some .boolean)) "ModuleShelf$Code" rfl (by decide) rfl (Nat.le_of_ble_eq_true rfl) ?_
  intro κ C
  unfold xm_C_hasVariable at hm
  refine aw_iload_n C 1 xd_C_hasVariable_0 rfl rfl ?_
  refine aw_if_lt (tgt := 16) C xd_C_hasVariable_1 (by decide) (fun c_1 => ?_) (fun c_1 => ?_)
  · rw [if_pos c_1] at hm
    refine aw_iconst (v := (0 : Int32)) C xd_C_hasVariable_16 (by decide) ?_
    cases hm
    exact aw_zret C (by decide) xd_C_hasVariable_17
  · rw [if_neg c_1] at hm
    refine aw_iload_n C 1 xd_C_hasVariable_4 rfl rfl ?_
    refine aw_aload_n C 0 xd_C_hasVariable_5 rfl rfl ?_
    refine aw_get C k0 (kd_lt hk0) (ly_C hk0) rfl (fun w h => List.mem_cons_of_mem _ (xi_C w h)) 0 (by decide) rfl (List.mem_cons_of_mem _ fl_C_27) xd_C_hasVariable_6 ?_
    refine aw_icmp_ge (tgt := 16) C xd_C_hasVariable_9 (by decide) (fun c_9 => ?_) (fun c_9 => ?_)
    · rw [if_pos c_9] at hm
      refine aw_iconst (v := (0 : Int32)) C xd_C_hasVariable_16 (by decide) ?_
      cases hm
      exact aw_zret C (by decide) xd_C_hasVariable_17
    · rw [if_neg c_9] at hm
      refine aw_iconst (v := (1 : Int32)) C xd_C_hasVariable_12 (by decide) ?_
      refine aw_goto (tgt := 17) C xd_C_hasVariable_13 (by decide) ?_
      cases hm
      exact aw_zret C (by decide) xd_C_hasVariable_17
def xm_C_argumentsOf (σ : aw_m) (k0 : Nat) (a1 : Int32) : Option Int32 := (xm_C_hasProcedure σ k0 a1).bind fun q_2 => (if q_2 = 0 then some (-1 : Int32) else if aw_in a1 3 = true then some (σ (k0 + 1) (Int32.toNatClampNeg a1)) else none)
set_option maxHeartbeats 4000000 in
set_option maxRecDepth 100000 in
theorem xc_C_argumentsOf (σ : aw_m) (k0 : Nat) (a1 : Int32) (q : Int32) (hk0 : kd_k k0 = 1) (hm : xm_C_argumentsOf σ k0 a1 = some q) : aw_M l D (ty_z ids) (zs_T ps) xy_C_argumentsOf (xw_C_argumentsOf :: gw_l) (rm_D (1)) [.ref (ad k0), .int a1] (cw_w ad ids σ) (some (.int q)) (cw_w ad ids σ) := by
  refine aw_intro (cc := xb_C_argumentsOf) (n := 2) (ret := (some .int)) "ModuleShelf$Code" rfl (by decide) rfl (Nat.le_of_ble_eq_true rfl) ?_
  intro κ C
  unfold xm_C_argumentsOf at hm
  refine aw_aload_n C 0 xd_C_argumentsOf_0 rfl rfl ?_
  refine aw_iload_n C 1 xd_C_argumentsOf_1 rfl rfl ?_
  obtain ⟨q_2, e_2, hm⟩ := aw_bnd hm
  refine aw_callVi (As := [.int a1]) (rest := []) (b := ad k0) C (xc_C_hasProcedure σ k0 a1 _ hk0 e_2) rfl (gw_sub (gw_V xg_C_hasProcedure ml_C_38 im_C_hasProcedure se_C_hasProcedure wi_C)) na_C_hasProcedure (rm_lt (by decide) (by decide)) ⟨Nat.zero_le _, Nat.zero_le _⟩ k0 (at_C hk0) rfl rfl (Nat.le_of_ble_eq_true rfl) xd_C_argumentsOf_2 ?_
  refine aw_if_eq (tgt := 17) C xd_C_argumentsOf_5 (by decide) (fun c_5 => ?_) (fun c_5 => ?_)
  · rw [if_pos c_5] at hm
    refine aw_iconst (v := (-1 : Int32)) C xd_C_argumentsOf_17 (by decide) ?_
    cases hm
    exact aw_iret C xd_C_argumentsOf_18
  · rw [if_neg c_5] at hm
    refine aw_aload_n C 0 xd_C_argumentsOf_8 rfl rfl ?_
    refine aw_get C k0 (kd_lt hk0) (ly_C hk0) rfl (fun w h => List.mem_cons_of_mem _ (xi_C w h)) 2 (by decide) rfl (List.mem_cons_of_mem _ fl_C_9) xd_C_argumentsOf_9 ?_
    refine aw_iload_n C 1 xd_C_argumentsOf_12 rfl rfl ?_
    obtain ⟨g_13, hm⟩ := aw_grd hm
    refine aw_iald C (k0 + 1) (kd_lt (kf_C_arguments hk0)) 0 (ly_A3 (kf_C_arguments hk0)) rfl (aw_in_ok g_13) xd_C_argumentsOf_13 ?_
    refine aw_goto (tgt := 18) C xd_C_argumentsOf_14 (by decide) ?_
    cases hm
    exact aw_iret C xd_C_argumentsOf_18
def xm_C_lengthOf (σ : aw_m) (k0 : Nat) (a1 : Int32) : Option Int32 := (xm_C_hasProcedure σ k0 a1).bind fun q_2 => (if q_2 = 0 then some (0 : Int32) else if aw_in a1 3 = true then some (σ (k0 + 2) (Int32.toNatClampNeg a1)) else none)
set_option maxHeartbeats 4000000 in
set_option maxRecDepth 100000 in
theorem xc_C_lengthOf (σ : aw_m) (k0 : Nat) (a1 : Int32) (q : Int32) (hk0 : kd_k k0 = 1) (hm : xm_C_lengthOf σ k0 a1 = some q) : aw_M l D (ty_z ids) (zs_T ps) xy_C_lengthOf (xw_C_lengthOf :: gw_l) (rm_D (1)) [.ref (ad k0), .int a1] (cw_w ad ids σ) (some (.int q)) (cw_w ad ids σ) := by
  refine aw_intro (cc := xb_C_lengthOf) (n := 2) (ret := (some .int)) "ModuleShelf$Code" rfl (by decide) rfl (Nat.le_of_ble_eq_true rfl) ?_
  intro κ C
  unfold xm_C_lengthOf at hm
  refine aw_aload_n C 0 xd_C_lengthOf_0 rfl rfl ?_
  refine aw_iload_n C 1 xd_C_lengthOf_1 rfl rfl ?_
  obtain ⟨q_2, e_2, hm⟩ := aw_bnd hm
  refine aw_callVi (As := [.int a1]) (rest := []) (b := ad k0) C (xc_C_hasProcedure σ k0 a1 _ hk0 e_2) rfl (gw_sub (gw_V xg_C_hasProcedure ml_C_38 im_C_hasProcedure se_C_hasProcedure wi_C)) na_C_hasProcedure (rm_lt (by decide) (by decide)) ⟨Nat.zero_le _, Nat.zero_le _⟩ k0 (at_C hk0) rfl rfl (Nat.le_of_ble_eq_true rfl) xd_C_lengthOf_2 ?_
  refine aw_if_eq (tgt := 17) C xd_C_lengthOf_5 (by decide) (fun c_5 => ?_) (fun c_5 => ?_)
  · rw [if_pos c_5] at hm
    refine aw_iconst (v := (0 : Int32)) C xd_C_lengthOf_17 (by decide) ?_
    cases hm
    exact aw_iret C xd_C_lengthOf_18
  · rw [if_neg c_5] at hm
    refine aw_aload_n C 0 xd_C_lengthOf_8 rfl rfl ?_
    refine aw_get C k0 (kd_lt hk0) (ly_C hk0) rfl (fun w h => List.mem_cons_of_mem _ (xi_C w h)) 3 (by decide) rfl (List.mem_cons_of_mem _ fl_C_15) xd_C_lengthOf_9 ?_
    refine aw_iload_n C 1 xd_C_lengthOf_12 rfl rfl ?_
    obtain ⟨g_13, hm⟩ := aw_grd hm
    refine aw_iald C (k0 + 2) (kd_lt (kf_C_lengths hk0)) 0 (ly_A3 (kf_C_lengths hk0)) rfl (aw_in_ok g_13) xd_C_lengthOf_13 ?_
    refine aw_goto (tgt := 18) C xd_C_lengthOf_14 (by decide) ?_
    cases hm
    exact aw_iret C xd_C_lengthOf_18
def xq_C_size_7 (σ : aw_m)  : Nat → Nat → Int32 → Int32 → Option Int32
  | 0, _, _, _ => none
  | n + 1, j0, v1, v2 => (if σ j0 1 ≤ v2 then some v1 else if aw_in v2 3 = true then xq_C_size_7 σ n j0 (v1 + (σ (j0 + 2) (Int32.toNatClampNeg v2))) (v2 + (1 : Int32)) else none)
def xm_C_size (σ : aw_m) (k0 : Nat) : Option Int32 := xq_C_size_7 σ 64 k0 (σ k0 0) (0 : Int32)
set_option maxHeartbeats 4000000 in
set_option maxRecDepth 100000 in
theorem xl_C_size_7 (σ : aw_m)  {κ : aw_K} (q : Int32) (C : aw_X l D (ty_z ids) (zs_T ps) (rm_D (0)) xb_C_size 3 "ModuleShelf$Code" (xw_C_size :: gw_l) (some .int) (some (.int q)) (cw_w ad ids σ) κ) : ∀ (n : Nat) (j0 : Nat) (v1 : Int32) (v2 : Int32) (hj0 : kd_k j0 = 1), xq_C_size_7 σ n j0 v1 v2 = some q → aw_J κ 0 0 (cw_w ad ids σ) [(0, .ref (ad j0)), (1, .int v1), (2, .int v2)] 7 [] := by
  intro n
  induction n with
  | zero => intro j0 v1 v2 hj0 hm; cases hm
  | succ n ih =>
    intro j0 v1 v2 hj0 hm
    rw [xq_C_size_7] at hm
    refine aw_iload_n C 2 xd_C_size_7 rfl rfl ?_
    refine aw_aload_n C 0 xd_C_size_8 rfl rfl ?_
    refine aw_get C j0 (kd_lt hj0) (ly_C hj0) rfl (fun w h => List.mem_cons_of_mem _ (xi_C w h)) 1 (by decide) rfl (List.mem_cons_of_mem _ fl_C_31) xd_C_size_9 ?_
    refine aw_icmp_ge (tgt := 30) C xd_C_size_12 (by decide) (fun c_12 => ?_) (fun c_12 => ?_)
    · rw [if_pos c_12] at hm
      refine aw_iload_n C 1 xd_C_size_30 rfl rfl ?_
      cases hm
      exact aw_iret C xd_C_size_31
    · rw [if_neg c_12] at hm
      refine aw_iload_n C 1 xd_C_size_15 rfl rfl ?_
      refine aw_aload_n C 0 xd_C_size_16 rfl rfl ?_
      refine aw_get C j0 (kd_lt hj0) (ly_C hj0) rfl (fun w h => List.mem_cons_of_mem _ (xi_C w h)) 3 (by decide) rfl (List.mem_cons_of_mem _ fl_C_15) xd_C_size_17 ?_
      refine aw_iload_n C 2 xd_C_size_20 rfl rfl ?_
      obtain ⟨g_21, hm⟩ := aw_grd hm
      refine aw_iald C (j0 + 2) (kd_lt (kf_C_lengths hj0)) 0 (ly_A3 (kf_C_lengths hj0)) rfl (aw_in_ok g_21) xd_C_size_21 ?_
      refine aw_iadd C xd_C_size_22 ?_
      refine aw_istore_n (L' := [(1, .int (v1 + (σ (j0 + 2) (Int32.toNatClampNeg v2)))), (0, .ref (ad j0)), (2, .int v2)]) C xd_C_size_23 rfl (by decide) rfl ?_
      refine aw_iinc (j := 2) (v := v2 + (1 : Int32)) (L' := [(2, .int (v2 + (1 : Int32))), (1, .int (v1 + (σ (j0 + 2) (Int32.toNatClampNeg v2)))), (0, .ref (ad j0))]) C xd_C_size_24 rfl rfl (by decide) rfl ?_
      refine aw_goto (tgt := 7) C xd_C_size_27 (by decide) ?_
      refine aw_loc (L' := [(0, .ref (ad j0)), (1, .int (v1 + (σ (j0 + 2) (Int32.toNatClampNeg v2)))), (2, .int (v2 + (1 : Int32)))]) C [2, 1, 0] rfl ?_
      exact ih j0 (v1 + (σ (j0 + 2) (Int32.toNatClampNeg v2))) (v2 + (1 : Int32)) hj0 hm
set_option maxHeartbeats 4000000 in
set_option maxRecDepth 100000 in
theorem xc_C_size (σ : aw_m) (k0 : Nat) (q : Int32) (hk0 : kd_k k0 = 1) (hm : xm_C_size σ k0 = some q) : aw_M l D (ty_z ids) (zs_T ps) xy_C_size (xw_C_size :: gw_l) (rm_D (0)) [.ref (ad k0)] (cw_w ad ids σ) (some (.int q)) (cw_w ad ids σ) := by
  refine aw_intro (cc := xb_C_size) (n := 3) (ret := (some .int)) "ModuleShelf$Code" rfl (by decide) rfl (Nat.le_of_ble_eq_true rfl) ?_
  intro κ C
  unfold xm_C_size at hm
  refine aw_aload_n C 0 xd_C_size_0 rfl rfl ?_
  refine aw_get C k0 (kd_lt hk0) (ly_C hk0) rfl (fun w h => List.mem_cons_of_mem _ (xi_C w h)) 0 (by decide) rfl (List.mem_cons_of_mem _ fl_C_27) xd_C_size_1 ?_
  refine aw_istore_n (L' := [(1, .int (σ k0 0)), (0, .ref (ad k0))]) C xd_C_size_4 rfl (by decide) rfl ?_
  refine aw_iconst (v := (0 : Int32)) C xd_C_size_5 (by decide) ?_
  refine aw_istore_n (L' := [(2, .int (0 : Int32)), (1, .int (σ k0 0)), (0, .ref (ad k0))]) C xd_C_size_6 rfl (by decide) rfl ?_
  refine aw_loc (L' := [(0, .ref (ad k0)), (1, .int (σ k0 0)), (2, .int (0 : Int32))]) C [2, 1, 0] rfl ?_
  exact xl_C_size_7 σ _ C 64 k0 (σ k0 0) (0 : Int32) hk0 hm
def xq_C_hasInterfaceOf_26 (σ : aw_m)  : Nat → Nat → Nat → Int32 → Option Int32
  | 0, _, _, _ => none
  | n + 1, j0, j1, v2 => (if σ j0 1 ≤ v2 then some (1 : Int32) else if aw_in v2 3 = true then if aw_in v2 3 = true then (if σ (j0 + 1) (Int32.toNatClampNeg v2) = σ (j1 + 1) (Int32.toNatClampNeg v2) then xq_C_hasInterfaceOf_26 σ n j0 j1 (v2 + (1 : Int32)) else some (0 : Int32)) else none else none)
def xm_C_hasInterfaceOf (σ : aw_m) (k0 : Nat) (k1 : Nat) : Option Int32 := (if σ k0 0 = σ k1 0 then (if σ k0 1 = σ k1 1 then xq_C_hasInterfaceOf_26 σ 64 k0 k1 (0 : Int32) else some (0 : Int32)) else some (0 : Int32))
set_option maxHeartbeats 4000000 in
set_option maxRecDepth 100000 in
theorem xl_C_hasInterfaceOf_26 (σ : aw_m)  {κ : aw_K} (q : Int32) (C : aw_X l D (ty_z ids) (zs_T ps) (rm_D (0)) xb_C_hasInterfaceOf 3 "ModuleShelf$Code" (xw_C_hasInterfaceOf :: gw_l) (some .boolean) (some (.int q)) (cw_w ad ids σ) κ) : ∀ (n : Nat) (j0 : Nat) (j1 : Nat) (v2 : Int32) (hj0 : kd_k j0 = 1) (hj1 : kd_k j1 = 1), xq_C_hasInterfaceOf_26 σ n j0 j1 v2 = some q → aw_J κ 0 0 (cw_w ad ids σ) [(0, .ref (ad j0)), (1, .ref (ad j1)), (2, .int v2)] 26 [] := by
  intro n
  induction n with
  | zero => intro j0 j1 v2 hj0 hj1 hm; cases hm
  | succ n ih =>
    intro j0 j1 v2 hj0 hj1 hm
    rw [xq_C_hasInterfaceOf_26] at hm
    refine aw_iload_n C 2 xd_C_hasInterfaceOf_26 rfl rfl ?_
    refine aw_aload_n C 0 xd_C_hasInterfaceOf_27 rfl rfl ?_
    refine aw_get C j0 (kd_lt hj0) (ly_C hj0) rfl (fun w h => List.mem_cons_of_mem _ (xi_C w h)) 1 (by decide) rfl (List.mem_cons_of_mem _ fl_C_31) xd_C_hasInterfaceOf_28 ?_
    refine aw_icmp_ge (tgt := 57) C xd_C_hasInterfaceOf_31 (by decide) (fun c_31 => ?_) (fun c_31 => ?_)
    · rw [if_pos c_31] at hm
      refine aw_iconst (v := (1 : Int32)) C xd_C_hasInterfaceOf_57 (by decide) ?_
      cases hm
      exact aw_zret C (by decide) xd_C_hasInterfaceOf_58
    · rw [if_neg c_31] at hm
      refine aw_aload_n C 0 xd_C_hasInterfaceOf_34 rfl rfl ?_
      refine aw_get C j0 (kd_lt hj0) (ly_C hj0) rfl (fun w h => List.mem_cons_of_mem _ (xi_C w h)) 2 (by decide) rfl (List.mem_cons_of_mem _ fl_C_9) xd_C_hasInterfaceOf_35 ?_
      refine aw_iload_n C 2 xd_C_hasInterfaceOf_38 rfl rfl ?_
      obtain ⟨g_39, hm⟩ := aw_grd hm
      refine aw_iald C (j0 + 1) (kd_lt (kf_C_arguments hj0)) 0 (ly_A3 (kf_C_arguments hj0)) rfl (aw_in_ok g_39) xd_C_hasInterfaceOf_39 ?_
      refine aw_aload_n C 1 xd_C_hasInterfaceOf_40 rfl rfl ?_
      refine aw_get C j1 (kd_lt hj1) (ly_C hj1) rfl (fun w h => List.mem_cons_of_mem _ (xi_C w h)) 2 (by decide) rfl (List.mem_cons_of_mem _ fl_C_9) xd_C_hasInterfaceOf_41 ?_
      refine aw_iload_n C 2 xd_C_hasInterfaceOf_44 rfl rfl ?_
      obtain ⟨g_45, hm⟩ := aw_grd hm
      refine aw_iald C (j1 + 1) (kd_lt (kf_C_arguments hj1)) 0 (ly_A3 (kf_C_arguments hj1)) rfl (aw_in_ok g_45) xd_C_hasInterfaceOf_45 ?_
      refine aw_icmp_eq (tgt := 51) C xd_C_hasInterfaceOf_46 (by decide) (fun c_46 => ?_) (fun c_46 => ?_)
      · rw [if_pos c_46] at hm
        refine aw_iinc (j := 2) (v := v2 + (1 : Int32)) (L' := [(2, .int (v2 + (1 : Int32))), (0, .ref (ad j0)), (1, .ref (ad j1))]) C xd_C_hasInterfaceOf_51 rfl rfl (by decide) rfl ?_
        refine aw_goto (tgt := 26) C xd_C_hasInterfaceOf_54 (by decide) ?_
        refine aw_loc (L' := [(0, .ref (ad j0)), (1, .ref (ad j1)), (2, .int (v2 + (1 : Int32)))]) C [1, 2, 0] rfl ?_
        exact ih j0 j1 (v2 + (1 : Int32)) hj0 hj1 hm
      · rw [if_neg c_46] at hm
        refine aw_iconst (v := (0 : Int32)) C xd_C_hasInterfaceOf_49 (by decide) ?_
        cases hm
        exact aw_zret C (by decide) xd_C_hasInterfaceOf_50
set_option maxHeartbeats 4000000 in
set_option maxRecDepth 100000 in
theorem xc_C_hasInterfaceOf (σ : aw_m) (k0 : Nat) (k1 : Nat) (q : Int32) (hk0 : kd_k k0 = 1) (hk1 : kd_k k1 = 1) (hm : xm_C_hasInterfaceOf σ k0 k1 = some q) : aw_M l D (ty_z ids) (zs_T ps) xy_C_hasInterfaceOf (xw_C_hasInterfaceOf :: gw_l) (rm_D (0)) [.ref (ad k0), .ref (ad k1)] (cw_w ad ids σ) (some (.int q)) (cw_w ad ids σ) := by
  refine aw_intro (cc := xb_C_hasInterfaceOf) (n := 3) (ret := (some .boolean)) "ModuleShelf$Code" rfl (by decide) rfl (Nat.le_of_ble_eq_true rfl) ?_
  intro κ C
  unfold xm_C_hasInterfaceOf at hm
  refine aw_aload_n C 0 xd_C_hasInterfaceOf_0 rfl rfl ?_
  refine aw_get C k0 (kd_lt hk0) (ly_C hk0) rfl (fun w h => List.mem_cons_of_mem _ (xi_C w h)) 0 (by decide) rfl (List.mem_cons_of_mem _ fl_C_27) xd_C_hasInterfaceOf_1 ?_
  refine aw_aload_n C 1 xd_C_hasInterfaceOf_4 rfl rfl ?_
  refine aw_get C k1 (kd_lt hk1) (ly_C hk1) rfl (fun w h => List.mem_cons_of_mem _ (xi_C w h)) 0 (by decide) rfl (List.mem_cons_of_mem _ fl_C_27) xd_C_hasInterfaceOf_5 ?_
  refine aw_icmp_ne (tgt := 22) C xd_C_hasInterfaceOf_8 (by decide) (fun c_8 => ?_) (fun c_8 => ?_)
  · rw [if_neg c_8] at hm
    refine aw_iconst (v := (0 : Int32)) C xd_C_hasInterfaceOf_22 (by decide) ?_
    cases hm
    exact aw_zret C (by decide) xd_C_hasInterfaceOf_23
  · rw [if_pos c_8] at hm
    refine aw_aload_n C 0 xd_C_hasInterfaceOf_11 rfl rfl ?_
    refine aw_get C k0 (kd_lt hk0) (ly_C hk0) rfl (fun w h => List.mem_cons_of_mem _ (xi_C w h)) 1 (by decide) rfl (List.mem_cons_of_mem _ fl_C_31) xd_C_hasInterfaceOf_12 ?_
    refine aw_aload_n C 1 xd_C_hasInterfaceOf_15 rfl rfl ?_
    refine aw_get C k1 (kd_lt hk1) (ly_C hk1) rfl (fun w h => List.mem_cons_of_mem _ (xi_C w h)) 1 (by decide) rfl (List.mem_cons_of_mem _ fl_C_31) xd_C_hasInterfaceOf_16 ?_
    refine aw_icmp_eq (tgt := 24) C xd_C_hasInterfaceOf_19 (by decide) (fun c_19 => ?_) (fun c_19 => ?_)
    · rw [if_pos c_19] at hm
      refine aw_iconst (v := (0 : Int32)) C xd_C_hasInterfaceOf_24 (by decide) ?_
      refine aw_istore_n (L' := [(2, .int (0 : Int32)), (0, .ref (ad k0)), (1, .ref (ad k1))]) C xd_C_hasInterfaceOf_25 rfl (by decide) rfl ?_
      refine aw_loc (L' := [(0, .ref (ad k0)), (1, .ref (ad k1)), (2, .int (0 : Int32))]) C [1, 2, 0] rfl ?_
      exact xl_C_hasInterfaceOf_26 σ _ C 64 k0 k1 (0 : Int32) hk0 hk1 hm
    · rw [if_neg c_19] at hm
      refine aw_iconst (v := (0 : Int32)) C xd_C_hasInterfaceOf_22 (by decide) ?_
      cases hm
      exact aw_zret C (by decide) xd_C_hasInterfaceOf_23
def xm_C_copyFrom (σ : aw_m) (k0 : Nat) (k1 : Nat) : Option aw_m := aw_l (aw_p σ k0 0 (σ k1 0)) fun s_5 => aw_l (aw_p s_5 k0 1 (s_5 k1 1)) fun s_13 => aw_l (aw_c s_13 (k1 + 1) (k0 + 1) 0 0 3) fun s_31 => aw_l (aw_c s_31 (k1 + 2) (k0 + 2) 0 0 3) fun s_49 => aw_l (aw_c s_49 (k1 + 3) (k0 + 3) 0 0 42) fun s_67 => aw_l (aw_c s_67 (k1 + 4) (k0 + 4) 0 0 42) fun s_85 => aw_l (aw_c s_85 (k1 + 5) (k0 + 5) 0 0 42) fun s_103 => some s_103
set_option maxHeartbeats 4000000 in
set_option maxRecDepth 100000 in
theorem xc_C_copyFrom (σ : aw_m) (k0 : Nat) (k1 : Nat) (q : aw_m) (hk0 : kd_k k0 = 1) (hk1 : kd_k k1 = 1) (hm : xm_C_copyFrom σ k0 k1 = some q) : aw_M l D (ty_z ids) (zs_T ps) xy_C_copyFrom (xw_C_copyFrom :: gw_l) (rm_D (1)) [.ref (ad k0), .ref (ad k1)] (cw_w ad ids σ) none (cw_w ad ids q) := by
  refine aw_intro (cc := xb_C_copyFrom) (n := 2) (ret := none) "ModuleShelf$Code" rfl (by decide) rfl (Nat.le_of_ble_eq_true rfl) ?_
  intro κ C
  unfold xm_C_copyFrom at hm
  refine aw_aload_n C 0 xd_C_copyFrom_0 rfl rfl ?_
  refine aw_aload_n C 1 xd_C_copyFrom_1 rfl rfl ?_
  refine aw_get C k1 (kd_lt hk1) (ly_C hk1) rfl (fun w h => List.mem_cons_of_mem _ (xi_C w h)) 0 (by decide) rfl (List.mem_cons_of_mem _ fl_C_27) xd_C_copyFrom_2 ?_
  obtain ⟨s_5, h_5, hm⟩ := aw_let hm
  refine aw_put (σ1 := s_5) (f := upd (σ k0) 0 (σ k1 0)) C k0 (kd_lt hk0) (ly_C hk0) rfl (fun w h => List.mem_cons_of_mem _ (xi_C w h)) xk_C xo_C xn_C 0 (by decide) (List.mem_cons_of_mem _ fl_C_27) rfl (ty := .int) (by decide +kernel) rfl rfl (Nat.le_of_ble_eq_true rfl) (ly_C hk0) h_5 xd_C_copyFrom_5 ?_
  refine aw_aload_n C 0 xd_C_copyFrom_8 rfl rfl ?_
  refine aw_aload_n C 1 xd_C_copyFrom_9 rfl rfl ?_
  refine aw_get C k1 (kd_lt hk1) (ly_C hk1) rfl (fun w h => List.mem_cons_of_mem _ (xi_C w h)) 1 (by decide) rfl (List.mem_cons_of_mem _ fl_C_31) xd_C_copyFrom_10 ?_
  obtain ⟨s_13, h_13, hm⟩ := aw_let hm
  refine aw_put (σ1 := s_13) (f := upd (s_5 k0) 1 (s_5 k1 1)) C k0 (kd_lt hk0) (ly_C hk0) rfl (fun w h => List.mem_cons_of_mem _ (xi_C w h)) xk_C xo_C xn_C 1 (by decide) (List.mem_cons_of_mem _ fl_C_31) rfl (ty := .int) (by decide +kernel) rfl rfl (Nat.le_of_ble_eq_true rfl) (ly_C hk0) h_13 xd_C_copyFrom_13 ?_
  refine aw_aload_n C 1 xd_C_copyFrom_16 rfl rfl ?_
  refine aw_get C k1 (kd_lt hk1) (ly_C hk1) rfl (fun w h => List.mem_cons_of_mem _ (xi_C w h)) 2 (by decide) rfl (List.mem_cons_of_mem _ fl_C_9) xd_C_copyFrom_17 ?_
  refine aw_iconst (v := (0 : Int32)) C xd_C_copyFrom_20 (by decide) ?_
  refine aw_aload_n C 0 xd_C_copyFrom_21 rfl rfl ?_
  refine aw_get C k0 (kd_lt hk0) (ly_C hk0) rfl (fun w h => List.mem_cons_of_mem _ (xi_C w h)) 2 (by decide) rfl (List.mem_cons_of_mem _ fl_C_9) xd_C_copyFrom_22 ?_
  refine aw_iconst (v := (0 : Int32)) C xd_C_copyFrom_25 (by decide) ?_
  refine aw_aload_n C 0 xd_C_copyFrom_26 rfl rfl ?_
  refine aw_get C k0 (kd_lt hk0) (ly_C hk0) rfl (fun w h => List.mem_cons_of_mem _ (xi_C w h)) 2 (by decide) rfl (List.mem_cons_of_mem _ fl_C_9) xd_C_copyFrom_27 ?_
  refine aw_alen (v := (3 : Int32)) C (k0 + 1) (kd_lt (kf_C_arguments hk0)) 0 (ly_A3 (kf_C_arguments hk0)) rfl rfl xd_C_copyFrom_30 ?_
  obtain ⟨s_31, h_31, hm⟩ := aw_let hm
  refine aw_copy (σ1 := s_31) (h := va_cpy (s_13 (k1 + 1)) (s_13 (k0 + 1)) 0 0 3) C (k1 + 1) (k0 + 1) (kd_lt (kf_C_arguments hk1)) (kd_lt (kf_C_arguments hk0)) 0 (ly_A3 (kf_C_arguments hk1)) (ly_A3 (kf_C_arguments hk0)) rfl (List.mem_cons_of_mem _ ml_C_42) (List.mem_cons_of_mem _ wn_copy) (List.mem_cons_of_mem _ ws_copy) (List.mem_cons_of_mem _ wi_sys) (by decide) (by decide) (by decide) (by decide) (by decide) (by decide) (by decide) (ly_A3 (kf_C_arguments hk0)) h_31 xd_C_copyFrom_31 ?_
  refine aw_aload_n C 1 xd_C_copyFrom_34 rfl rfl ?_
  refine aw_get C k1 (kd_lt hk1) (ly_C hk1) rfl (fun w h => List.mem_cons_of_mem _ (xi_C w h)) 3 (by decide) rfl (List.mem_cons_of_mem _ fl_C_15) xd_C_copyFrom_35 ?_
  refine aw_iconst (v := (0 : Int32)) C xd_C_copyFrom_38 (by decide) ?_
  refine aw_aload_n C 0 xd_C_copyFrom_39 rfl rfl ?_
  refine aw_get C k0 (kd_lt hk0) (ly_C hk0) rfl (fun w h => List.mem_cons_of_mem _ (xi_C w h)) 3 (by decide) rfl (List.mem_cons_of_mem _ fl_C_15) xd_C_copyFrom_40 ?_
  refine aw_iconst (v := (0 : Int32)) C xd_C_copyFrom_43 (by decide) ?_
  refine aw_aload_n C 0 xd_C_copyFrom_44 rfl rfl ?_
  refine aw_get C k0 (kd_lt hk0) (ly_C hk0) rfl (fun w h => List.mem_cons_of_mem _ (xi_C w h)) 3 (by decide) rfl (List.mem_cons_of_mem _ fl_C_15) xd_C_copyFrom_45 ?_
  refine aw_alen (v := (3 : Int32)) C (k0 + 2) (kd_lt (kf_C_lengths hk0)) 0 (ly_A3 (kf_C_lengths hk0)) rfl rfl xd_C_copyFrom_48 ?_
  obtain ⟨s_49, h_49, hm⟩ := aw_let hm
  refine aw_copy (σ1 := s_49) (h := va_cpy (s_31 (k1 + 2)) (s_31 (k0 + 2)) 0 0 3) C (k1 + 2) (k0 + 2) (kd_lt (kf_C_lengths hk1)) (kd_lt (kf_C_lengths hk0)) 0 (ly_A3 (kf_C_lengths hk1)) (ly_A3 (kf_C_lengths hk0)) rfl (List.mem_cons_of_mem _ ml_C_42) (List.mem_cons_of_mem _ wn_copy) (List.mem_cons_of_mem _ ws_copy) (List.mem_cons_of_mem _ wi_sys) (by decide) (by decide) (by decide) (by decide) (by decide) (by decide) (by decide) (ly_A3 (kf_C_lengths hk0)) h_49 xd_C_copyFrom_49 ?_
  refine aw_aload_n C 1 xd_C_copyFrom_52 rfl rfl ?_
  refine aw_get C k1 (kd_lt hk1) (ly_C hk1) rfl (fun w h => List.mem_cons_of_mem _ (xi_C w h)) 4 (by decide) rfl (List.mem_cons_of_mem _ fl_C_18) xd_C_copyFrom_53 ?_
  refine aw_iconst (v := (0 : Int32)) C xd_C_copyFrom_56 (by decide) ?_
  refine aw_aload_n C 0 xd_C_copyFrom_57 rfl rfl ?_
  refine aw_get C k0 (kd_lt hk0) (ly_C hk0) rfl (fun w h => List.mem_cons_of_mem _ (xi_C w h)) 4 (by decide) rfl (List.mem_cons_of_mem _ fl_C_18) xd_C_copyFrom_58 ?_
  refine aw_iconst (v := (0 : Int32)) C xd_C_copyFrom_61 (by decide) ?_
  refine aw_aload_n C 0 xd_C_copyFrom_62 rfl rfl ?_
  refine aw_get C k0 (kd_lt hk0) (ly_C hk0) rfl (fun w h => List.mem_cons_of_mem _ (xi_C w h)) 4 (by decide) rfl (List.mem_cons_of_mem _ fl_C_18) xd_C_copyFrom_63 ?_
  refine aw_alen (v := (42 : Int32)) C (k0 + 3) (kd_lt (kf_C_ops hk0)) 0 (ly_A42 (kf_C_ops hk0)) rfl rfl xd_C_copyFrom_66 ?_
  obtain ⟨s_67, h_67, hm⟩ := aw_let hm
  refine aw_copy (σ1 := s_67) (h := va_cpy (s_49 (k1 + 3)) (s_49 (k0 + 3)) 0 0 42) C (k1 + 3) (k0 + 3) (kd_lt (kf_C_ops hk1)) (kd_lt (kf_C_ops hk0)) 0 (ly_A42 (kf_C_ops hk1)) (ly_A42 (kf_C_ops hk0)) rfl (List.mem_cons_of_mem _ ml_C_42) (List.mem_cons_of_mem _ wn_copy) (List.mem_cons_of_mem _ ws_copy) (List.mem_cons_of_mem _ wi_sys) (by decide) (by decide) (by decide) (by decide) (by decide) (by decide) (by decide) (ly_A42 (kf_C_ops hk0)) h_67 xd_C_copyFrom_67 ?_
  refine aw_aload_n C 1 xd_C_copyFrom_70 rfl rfl ?_
  refine aw_get C k1 (kd_lt hk1) (ly_C hk1) rfl (fun w h => List.mem_cons_of_mem _ (xi_C w h)) 5 (by decide) rfl (List.mem_cons_of_mem _ fl_C_21) xd_C_copyFrom_71 ?_
  refine aw_iconst (v := (0 : Int32)) C xd_C_copyFrom_74 (by decide) ?_
  refine aw_aload_n C 0 xd_C_copyFrom_75 rfl rfl ?_
  refine aw_get C k0 (kd_lt hk0) (ly_C hk0) rfl (fun w h => List.mem_cons_of_mem _ (xi_C w h)) 5 (by decide) rfl (List.mem_cons_of_mem _ fl_C_21) xd_C_copyFrom_76 ?_
  refine aw_iconst (v := (0 : Int32)) C xd_C_copyFrom_79 (by decide) ?_
  refine aw_aload_n C 0 xd_C_copyFrom_80 rfl rfl ?_
  refine aw_get C k0 (kd_lt hk0) (ly_C hk0) rfl (fun w h => List.mem_cons_of_mem _ (xi_C w h)) 5 (by decide) rfl (List.mem_cons_of_mem _ fl_C_21) xd_C_copyFrom_81 ?_
  refine aw_alen (v := (42 : Int32)) C (k0 + 4) (kd_lt (kf_C_as hk0)) 0 (ly_A42 (kf_C_as hk0)) rfl rfl xd_C_copyFrom_84 ?_
  obtain ⟨s_85, h_85, hm⟩ := aw_let hm
  refine aw_copy (σ1 := s_85) (h := va_cpy (s_67 (k1 + 4)) (s_67 (k0 + 4)) 0 0 42) C (k1 + 4) (k0 + 4) (kd_lt (kf_C_as hk1)) (kd_lt (kf_C_as hk0)) 0 (ly_A42 (kf_C_as hk1)) (ly_A42 (kf_C_as hk0)) rfl (List.mem_cons_of_mem _ ml_C_42) (List.mem_cons_of_mem _ wn_copy) (List.mem_cons_of_mem _ ws_copy) (List.mem_cons_of_mem _ wi_sys) (by decide) (by decide) (by decide) (by decide) (by decide) (by decide) (by decide) (ly_A42 (kf_C_as hk0)) h_85 xd_C_copyFrom_85 ?_
  refine aw_aload_n C 1 xd_C_copyFrom_88 rfl rfl ?_
  refine aw_get C k1 (kd_lt hk1) (ly_C hk1) rfl (fun w h => List.mem_cons_of_mem _ (xi_C w h)) 6 (by decide) rfl (List.mem_cons_of_mem _ fl_C_24) xd_C_copyFrom_89 ?_
  refine aw_iconst (v := (0 : Int32)) C xd_C_copyFrom_92 (by decide) ?_
  refine aw_aload_n C 0 xd_C_copyFrom_93 rfl rfl ?_
  refine aw_get C k0 (kd_lt hk0) (ly_C hk0) rfl (fun w h => List.mem_cons_of_mem _ (xi_C w h)) 6 (by decide) rfl (List.mem_cons_of_mem _ fl_C_24) xd_C_copyFrom_94 ?_
  refine aw_iconst (v := (0 : Int32)) C xd_C_copyFrom_97 (by decide) ?_
  refine aw_aload_n C 0 xd_C_copyFrom_98 rfl rfl ?_
  refine aw_get C k0 (kd_lt hk0) (ly_C hk0) rfl (fun w h => List.mem_cons_of_mem _ (xi_C w h)) 6 (by decide) rfl (List.mem_cons_of_mem _ fl_C_24) xd_C_copyFrom_99 ?_
  refine aw_alen (v := (42 : Int32)) C (k0 + 5) (kd_lt (kf_C_bs hk0)) 0 (ly_A42 (kf_C_bs hk0)) rfl rfl xd_C_copyFrom_102 ?_
  obtain ⟨s_103, h_103, hm⟩ := aw_let hm
  refine aw_copy (σ1 := s_103) (h := va_cpy (s_85 (k1 + 5)) (s_85 (k0 + 5)) 0 0 42) C (k1 + 5) (k0 + 5) (kd_lt (kf_C_bs hk1)) (kd_lt (kf_C_bs hk0)) 0 (ly_A42 (kf_C_bs hk1)) (ly_A42 (kf_C_bs hk0)) rfl (List.mem_cons_of_mem _ ml_C_42) (List.mem_cons_of_mem _ wn_copy) (List.mem_cons_of_mem _ ws_copy) (List.mem_cons_of_mem _ wi_sys) (by decide) (by decide) (by decide) (by decide) (by decide) (by decide) (by decide) (ly_A42 (kf_C_bs hk0)) h_103 xd_C_copyFrom_103 ?_
  cases hm
  exact aw_vret C xd_C_copyFrom_106
end
