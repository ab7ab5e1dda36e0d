theorem xd_N_fail_0 : decode xb_N_fail 0 = .ok (.aload_n 0, 1) := by decide +kernel
theorem xd_N_fail_1 : decode xb_N_fail 1 = .ok (.iload_n 1, 1) := by decide +kernel
theorem xd_N_fail_2 : decode xb_N_fail 2 = .ok (.putfield 22, 3) := by decide +kernel
theorem xd_N_fail_5 : decode xb_N_fail 5 = .ok (.iconst 0, 1) := by decide +kernel
theorem xd_N_fail_6 : decode xb_N_fail 6 = .ok (.ireturn, 1) := by decide +kernel
theorem xd_N_skip_0 : decode xb_N_skip 0 = .ok (.aload_n 1, 1) := by decide +kernel
theorem xd_N_skip_1 : decode xb_N_skip 1 = .ok (.getfield 33, 3) := by decide +kernel
theorem xd_N_skip_4 : decode xb_N_skip 4 = .ok (.aload_n 2, 1) := by decide +kernel
theorem xd_N_skip_5 : decode xb_N_skip 5 = .ok (.getfield 39, 3) := by decide +kernel
theorem xd_N_skip_8 : decode xb_N_skip 8 = .ok (.aaload, 1) := by decide +kernel
theorem xd_N_skip_9 : decode xb_N_skip 9 = .ok (.getfield 42, 3) := by decide +kernel
theorem xd_N_skip_12 : decode xb_N_skip 12 = .ok (.getfield 48, 3) := by decide +kernel
theorem xd_N_skip_15 : decode xb_N_skip 15 = .ok (.astore_n 3, 1) := by decide +kernel
theorem xd_N_skip_16 : decode xb_N_skip 16 = .ok (.aload_n 3, 1) := by decide +kernel
theorem xd_N_skip_17 : decode xb_N_skip 17 = .ok (.aload_n 2, 1) := by decide +kernel
theorem xd_N_skip_18 : decode xb_N_skip 18 = .ok (.getfield 57, 3) := by decide +kernel
theorem xd_N_skip_21 : decode xb_N_skip 21 = .ok (.invokevirtual 60, 3) := by decide +kernel
theorem xd_N_skip_24 : decode xb_N_skip 24 = .ok (.istore 4, 2) := by decide +kernel
theorem xd_N_skip_26 : decode xb_N_skip 26 = .ok (.iconst 1, 1) := by decide +kernel
theorem xd_N_skip_27 : decode xb_N_skip 27 = .ok (.istore 5, 2) := by decide +kernel
theorem xd_N_skip_29 : decode xb_N_skip 29 = .ok (.iload 5, 2) := by decide +kernel
theorem xd_N_skip_31 : decode xb_N_skip 31 = .ok (.ifCond .le 97, 3) := by decide +kernel
theorem xd_N_skip_34 : decode xb_N_skip 34 = .ok (.aload_n 2, 1) := by decide +kernel
theorem xd_N_skip_35 : decode xb_N_skip 35 = .ok (.getfield 54, 3) := by decide +kernel
theorem xd_N_skip_38 : decode xb_N_skip 38 = .ok (.iload 4, 2) := by decide +kernel
theorem xd_N_skip_40 : decode xb_N_skip 40 = .ok (.if_icmp .ge 88, 3) := by decide +kernel
theorem xd_N_skip_43 : decode xb_N_skip 43 = .ok (.aload_n 3, 1) := by decide +kernel
theorem xd_N_skip_44 : decode xb_N_skip 44 = .ok (.aload_n 2, 1) := by decide +kernel
theorem xd_N_skip_45 : decode xb_N_skip 45 = .ok (.getfield 57, 3) := by decide +kernel
theorem xd_N_skip_48 : decode xb_N_skip 48 = .ok (.aload_n 2, 1) := by decide +kernel
theorem xd_N_skip_49 : decode xb_N_skip 49 = .ok (.getfield 54, 3) := by decide +kernel
theorem xd_N_skip_52 : decode xb_N_skip 52 = .ok (.invokevirtual 69, 3) := by decide +kernel
theorem xd_N_skip_55 : decode xb_N_skip 55 = .ok (.istore 6, 2) := by decide +kernel
theorem xd_N_skip_57 : decode xb_N_skip 57 = .ok (.aload_n 3, 1) := by decide +kernel
theorem xd_N_skip_58 : decode xb_N_skip 58 = .ok (.getfield 80, 3) := by decide +kernel
theorem xd_N_skip_61 : decode xb_N_skip 61 = .ok (.iload 6, 2) := by decide +kernel
theorem xd_N_skip_63 : decode xb_N_skip 63 = .ok (.iaload, 1) := by decide +kernel
theorem xd_N_skip_64 : decode xb_N_skip 64 = .ok (.istore 7, 2) := by decide +kernel
theorem xd_N_skip_66 : decode xb_N_skip 66 = .ok (.iload 7, 2) := by decide +kernel
theorem xd_N_skip_68 : decode xb_N_skip 68 = .ok (.bipush 11, 2) := by decide +kernel
theorem xd_N_skip_70 : decode xb_N_skip 70 = .ok (.if_icmp .ne 24, 3) := by decide +kernel
theorem xd_N_skip_73 : decode xb_N_skip 73 = .ok (.aload_n 1, 1) := by decide +kernel
theorem xd_N_skip_74 : decode xb_N_skip 74 = .ok (.aload_n 3, 1) := by decide +kernel
theorem xd_N_skip_75 : decode xb_N_skip 75 = .ok (.getfield 73, 3) := by decide +kernel
theorem xd_N_skip_78 : decode xb_N_skip 78 = .ok (.iload 6, 2) := by decide +kernel
theorem xd_N_skip_80 : decode xb_N_skip 80 = .ok (.iaload, 1) := by decide +kernel
theorem xd_N_skip_81 : decode xb_N_skip 81 = .ok (.aload_n 3, 1) := by decide +kernel
theorem xd_N_skip_82 : decode xb_N_skip 82 = .ok (.getfield 77, 3) := by decide +kernel
theorem xd_N_skip_85 : decode xb_N_skip 85 = .ok (.iload 6, 2) := by decide +kernel
theorem xd_N_skip_87 : decode xb_N_skip 87 = .ok (.iaload, 1) := by decide +kernel
theorem xd_N_skip_88 : decode xb_N_skip 88 = .ok (.invokevirtual 114, 3) := by decide +kernel
theorem xd_N_skip_91 : decode xb_N_skip 91 = .ok (.goto 9, 3) := by decide +kernel
theorem xd_N_skip_94 : decode xb_N_skip 94 = .ok (.getstatic 117, 3) := by decide +kernel
theorem xd_N_skip_97 : decode xb_N_skip 97 = .ok (.iload 7, 2) := by decide +kernel
theorem xd_N_skip_99 : decode xb_N_skip 99 = .ok (.iaload, 1) := by decide +kernel
theorem xd_N_skip_100 : decode xb_N_skip 100 = .ok (.istore 8, 2) := by decide +kernel
theorem xd_N_skip_102 : decode xb_N_skip 102 = .ok (.iload 5, 2) := by decide +kernel
theorem xd_N_skip_104 : decode xb_N_skip 104 = .ok (.iconst 0, 1) := by decide +kernel
theorem xd_N_skip_105 : decode xb_N_skip 105 = .ok (.iload 8, 2) := by decide +kernel
theorem xd_N_skip_107 : decode xb_N_skip 107 = .ok (.invokestatic 120, 3) := by decide +kernel
theorem xd_N_skip_110 : decode xb_N_skip 110 = .ok (.iconst 1, 1) := by decide +kernel
theorem xd_N_skip_111 : decode xb_N_skip 111 = .ok (.isub, 1) := by decide +kernel
theorem xd_N_skip_112 : decode xb_N_skip 112 = .ok (.iadd, 1) := by decide +kernel
theorem xd_N_skip_113 : decode xb_N_skip 113 = .ok (.istore 5, 2) := by decide +kernel
theorem xd_N_skip_115 : decode xb_N_skip 115 = .ok (.aload_n 2, 1) := by decide +kernel
theorem xd_N_skip_116 : decode xb_N_skip 116 = .ok (.dup, 1) := by decide +kernel
theorem xd_N_skip_117 : decode xb_N_skip 117 = .ok (.getfield 54, 3) := by decide +kernel
theorem xd_N_skip_120 : decode xb_N_skip 120 = .ok (.iconst 1, 1) := by decide +kernel
theorem xd_N_skip_121 : decode xb_N_skip 121 = .ok (.iadd, 1) := by decide +kernel
theorem xd_N_skip_122 : decode xb_N_skip 122 = .ok (.putfield 54, 3) := by decide +kernel
theorem xd_N_skip_125 : decode xb_N_skip 125 = .ok (.goto (-96), 3) := by decide +kernel
theorem xd_N_skip_128 : decode xb_N_skip 128 = .ok (.return_, 1) := by decide +kernel
theorem xd_N_assign_0 : decode xb_N_assign 0 = .ok (.aload_n 0, 1) := by decide +kernel
theorem xd_N_assign_1 : decode xb_N_assign 1 = .ok (.aload_n 1, 1) := by decide +kernel
theorem xd_N_assign_2 : decode xb_N_assign 2 = .ok (.iload_n 2, 1) := by decide +kernel
theorem xd_N_assign_3 : decode xb_N_assign 3 = .ok (.iload_n 3, 1) := by decide +kernel
theorem xd_N_assign_4 : decode xb_N_assign 4 = .ok (.iconst 1, 1) := by decide +kernel
theorem xd_N_assign_5 : decode xb_N_assign 5 = .ok (.iadd, 1) := by decide +kernel
theorem xd_N_assign_6 : decode xb_N_assign 6 = .ok (.invokevirtual 29, 3) := by decide +kernel
theorem xd_N_assign_9 : decode xb_N_assign 9 = .ok (.istore 5, 2) := by decide +kernel
theorem xd_N_assign_11 : decode xb_N_assign 11 = .ok (.aload_n 0, 1) := by decide +kernel
theorem xd_N_assign_12 : decode xb_N_assign 12 = .ok (.getfield 22, 3) := by decide +kernel
theorem xd_N_assign_15 : decode xb_N_assign 15 = .ok (.ifCond .ne 20, 3) := by decide +kernel
theorem xd_N_assign_18 : decode xb_N_assign 18 = .ok (.aload_n 1, 1) := by decide +kernel
theorem xd_N_assign_19 : decode xb_N_assign 19 = .ok (.aload_n 0, 1) := by decide +kernel
theorem xd_N_assign_20 : decode xb_N_assign 20 = .ok (.getfield 11, 3) := by decide +kernel
theorem xd_N_assign_23 : decode xb_N_assign 23 = .ok (.iload_n 2, 1) := by decide +kernel
theorem xd_N_assign_24 : decode xb_N_assign 24 = .ok (.aaload, 1) := by decide +kernel
theorem xd_N_assign_25 : decode xb_N_assign 25 = .ok (.getfield 39, 3) := by decide +kernel
theorem xd_N_assign_28 : decode xb_N_assign 28 = .ok (.iload 4, 2) := by decide +kernel
theorem xd_N_assign_30 : decode xb_N_assign 30 = .ok (.iload 5, 2) := by decide +kernel
theorem xd_N_assign_32 : decode xb_N_assign 32 = .ok (.invokevirtual 106, 3) := by decide +kernel
theorem xd_N_assign_35 : decode xb_N_assign 35 = .ok (.iload 5, 2) := by decide +kernel
theorem xd_N_assign_37 : decode xb_N_assign 37 = .ok (.ireturn, 1) := by decide +kernel
theorem xd_N_choose_0 : decode xb_N_choose 0 = .ok (.aload_n 0, 1) := by decide +kernel
theorem xd_N_choose_1 : decode xb_N_choose 1 = .ok (.aload_n 1, 1) := by decide +kernel
theorem xd_N_choose_2 : decode xb_N_choose 2 = .ok (.iload_n 2, 1) := by decide +kernel
theorem xd_N_choose_3 : decode xb_N_choose 3 = .ok (.iload_n 3, 1) := by decide +kernel
theorem xd_N_choose_4 : decode xb_N_choose 4 = .ok (.iconst 1, 1) := by decide +kernel
theorem xd_N_choose_5 : decode xb_N_choose 5 = .ok (.iadd, 1) := by decide +kernel
theorem xd_N_choose_6 : decode xb_N_choose 6 = .ok (.invokevirtual 29, 3) := by decide +kernel
theorem xd_N_choose_9 : decode xb_N_choose 9 = .ok (.istore 4, 2) := by decide +kernel
theorem xd_N_choose_11 : decode xb_N_choose 11 = .ok (.iload 4, 2) := by decide +kernel
theorem xd_N_choose_13 : decode xb_N_choose 13 = .ok (.ifCond .ne 24, 3) := by decide +kernel
theorem xd_N_choose_16 : decode xb_N_choose 16 = .ok (.aload_n 0, 1) := by decide +kernel
theorem xd_N_choose_17 : decode xb_N_choose 17 = .ok (.aload_n 1, 1) := by decide +kernel
theorem xd_N_choose_18 : decode xb_N_choose 18 = .ok (.aload_n 0, 1) := by decide +kernel
theorem xd_N_choose_19 : decode xb_N_choose 19 = .ok (.getfield 11, 3) := by decide +kernel
theorem xd_N_choose_22 : decode xb_N_choose 22 = .ok (.iload_n 2, 1) := by decide +kernel
theorem xd_N_choose_23 : decode xb_N_choose 23 = .ok (.aaload, 1) := by decide +kernel
theorem xd_N_choose_24 : decode xb_N_choose 24 = .ok (.invokevirtual 110, 3) := by decide +kernel
theorem xd_N_choose_27 : decode xb_N_choose 27 = .ok (.aload_n 0, 1) := by decide +kernel
theorem xd_N_choose_28 : decode xb_N_choose 28 = .ok (.aload_n 1, 1) := by decide +kernel
theorem xd_N_choose_29 : decode xb_N_choose 29 = .ok (.iload_n 2, 1) := by decide +kernel
theorem xd_N_choose_30 : decode xb_N_choose 30 = .ok (.iload_n 3, 1) := by decide +kernel
theorem xd_N_choose_31 : decode xb_N_choose 31 = .ok (.iconst 1, 1) := by decide +kernel
theorem xd_N_choose_32 : decode xb_N_choose 32 = .ok (.iadd, 1) := by decide +kernel
theorem xd_N_choose_33 : decode xb_N_choose 33 = .ok (.invokevirtual 29, 3) := by decide +kernel
theorem xd_N_choose_36 : decode xb_N_choose 36 = .ok (.ireturn, 1) := by decide +kernel
theorem xd_N_choose_37 : decode xb_N_choose 37 = .ok (.aload_n 0, 1) := by decide +kernel
theorem xd_N_choose_38 : decode xb_N_choose 38 = .ok (.aload_n 1, 1) := by decide +kernel
theorem xd_N_choose_39 : decode xb_N_choose 39 = .ok (.iload_n 2, 1) := by decide +kernel
theorem xd_N_choose_40 : decode xb_N_choose 40 = .ok (.iload_n 3, 1) := by decide +kernel
theorem xd_N_choose_41 : decode xb_N_choose 41 = .ok (.iconst 1, 1) := by decide +kernel
theorem xd_N_choose_42 : decode xb_N_choose 42 = .ok (.iadd, 1) := by decide +kernel
theorem xd_N_choose_43 : decode xb_N_choose 43 = .ok (.invokevirtual 29, 3) := by decide +kernel
theorem xd_N_choose_46 : decode xb_N_choose 46 = .ok (.istore 5, 2) := by decide +kernel
theorem xd_N_choose_48 : decode xb_N_choose 48 = .ok (.aload_n 0, 1) := by decide +kernel
theorem xd_N_choose_49 : decode xb_N_choose 49 = .ok (.aload_n 1, 1) := by decide +kernel
theorem xd_N_choose_50 : decode xb_N_choose 50 = .ok (.aload_n 0, 1) := by decide +kernel
theorem xd_N_choose_51 : decode xb_N_choose 51 = .ok (.getfield 11, 3) := by decide +kernel
theorem xd_N_choose_54 : decode xb_N_choose 54 = .ok (.iload_n 2, 1) := by decide +kernel
theorem xd_N_choose_55 : decode xb_N_choose 55 = .ok (.aaload, 1) := by decide +kernel
theorem xd_N_choose_56 : decode xb_N_choose 56 = .ok (.invokevirtual 110, 3) := by decide +kernel
theorem xd_N_choose_59 : decode xb_N_choose 59 = .ok (.iload 5, 2) := by decide +kernel
theorem xd_N_choose_61 : decode xb_N_choose 61 = .ok (.ireturn, 1) := by decide +kernel
theorem xd_N_enter_0 : decode xb_N_enter 0 = .ok (.aload_n 1, 1) := by decide +kernel
theorem xd_N_enter_1 : decode xb_N_enter 1 = .ok (.iload 4, 2) := by decide +kernel
theorem xd_N_enter_3 : decode xb_N_enter 3 = .ok (.iload 5, 2) := by decide +kernel
theorem xd_N_enter_5 : decode xb_N_enter 5 = .ok (.invokevirtual 114, 3) := by decide +kernel
theorem xd_N_enter_8 : decode xb_N_enter 8 = .ok (.istore 6, 2) := by decide +kernel
theorem xd_N_enter_10 : decode xb_N_enter 10 = .ok (.iload 6, 2) := by decide +kernel
theorem xd_N_enter_12 : decode xb_N_enter 12 = .ok (.ifCond .le 15, 3) := by decide +kernel
theorem xd_N_enter_15 : decode xb_N_enter 15 = .ok (.aload_n 0, 1) := by decide +kernel
theorem xd_N_enter_16 : decode xb_N_enter 16 = .ok (.aload_n 1, 1) := by decide +kernel
theorem xd_N_enter_17 : decode xb_N_enter 17 = .ok (.iload_n 2, 1) := by decide +kernel
theorem xd_N_enter_18 : decode xb_N_enter 18 = .ok (.iload_n 3, 1) := by decide +kernel
theorem xd_N_enter_19 : decode xb_N_enter 19 = .ok (.iconst 1, 1) := by decide +kernel
theorem xd_N_enter_20 : decode xb_N_enter 20 = .ok (.iadd, 1) := by decide +kernel
theorem xd_N_enter_21 : decode xb_N_enter 21 = .ok (.invokevirtual 29, 3) := by decide +kernel
theorem xd_N_enter_24 : decode xb_N_enter 24 = .ok (.goto 4, 3) := by decide +kernel
theorem xd_N_enter_27 : decode xb_N_enter 27 = .ok (.iconst 0, 1) := by decide +kernel
theorem xd_N_enter_28 : decode xb_N_enter 28 = .ok (.istore 7, 2) := by decide +kernel
theorem xd_N_enter_30 : decode xb_N_enter 30 = .ok (.iload 6, 2) := by decide +kernel
theorem xd_N_enter_32 : decode xb_N_enter 32 = .ok (.iconst 1, 1) := by decide +kernel
theorem xd_N_enter_33 : decode xb_N_enter 33 = .ok (.if_icmp .le 15, 3) := by decide +kernel
theorem xd_N_enter_36 : decode xb_N_enter 36 = .ok (.aload_n 0, 1) := by decide +kernel
theorem xd_N_enter_37 : decode xb_N_enter 37 = .ok (.aload_n 1, 1) := by decide +kernel
theorem xd_N_enter_38 : decode xb_N_enter 38 = .ok (.iload_n 2, 1) := by decide +kernel
theorem xd_N_enter_39 : decode xb_N_enter 39 = .ok (.iload_n 3, 1) := by decide +kernel
theorem xd_N_enter_40 : decode xb_N_enter 40 = .ok (.iconst 1, 1) := by decide +kernel
theorem xd_N_enter_41 : decode xb_N_enter 41 = .ok (.iadd, 1) := by decide +kernel
theorem xd_N_enter_42 : decode xb_N_enter 42 = .ok (.invokevirtual 29, 3) := by decide +kernel
theorem xd_N_enter_45 : decode xb_N_enter 45 = .ok (.goto 4, 3) := by decide +kernel
theorem xd_N_enter_48 : decode xb_N_enter 48 = .ok (.iconst 0, 1) := by decide +kernel
theorem xd_N_enter_49 : decode xb_N_enter 49 = .ok (.istore 8, 2) := by decide +kernel
theorem xd_N_enter_51 : decode xb_N_enter 51 = .ok (.aload_n 0, 1) := by decide +kernel
theorem xd_N_enter_52 : decode xb_N_enter 52 = .ok (.getfield 22, 3) := by decide +kernel
theorem xd_N_enter_55 : decode xb_N_enter 55 = .ok (.ifCond .ne 9, 3) := by decide +kernel
theorem xd_N_enter_58 : decode xb_N_enter 58 = .ok (.iload 6, 2) := by decide +kernel
theorem xd_N_enter_60 : decode xb_N_enter 60 = .ok (.iconst (-1), 1) := by decide +kernel
theorem xd_N_enter_61 : decode xb_N_enter 61 = .ok (.if_icmp .ne 5, 3) := by decide +kernel
theorem xd_N_enter_64 : decode xb_N_enter 64 = .ok (.iconst 0, 1) := by decide +kernel
theorem xd_N_enter_65 : decode xb_N_enter 65 = .ok (.ireturn, 1) := by decide +kernel
theorem xd_N_enter_66 : decode xb_N_enter 66 = .ok (.iload_n 2, 1) := by decide +kernel
theorem xd_N_enter_67 : decode xb_N_enter 67 = .ok (.iconst 5, 1) := by decide +kernel
theorem xd_N_enter_68 : decode xb_N_enter 68 = .ok (.if_icmp .lt 10, 3) := by decide +kernel
theorem xd_N_enter_71 : decode xb_N_enter 71 = .ok (.aload_n 0, 1) := by decide +kernel
theorem xd_N_enter_72 : decode xb_N_enter 72 = .ok (.bipush (-9), 2) := by decide +kernel
theorem xd_N_enter_74 : decode xb_N_enter 74 = .ok (.invokevirtual 66, 3) := by decide +kernel
theorem xd_N_enter_77 : decode xb_N_enter 77 = .ok (.ireturn, 1) := by decide +kernel
theorem xd_N_enter_78 : decode xb_N_enter 78 = .ok (.aload_n 0, 1) := by decide +kernel
theorem xd_N_enter_79 : decode xb_N_enter 79 = .ok (.getfield 11, 3) := by decide +kernel
theorem xd_N_enter_82 : decode xb_N_enter 82 = .ok (.iload_n 2, 1) := by decide +kernel
theorem xd_N_enter_83 : decode xb_N_enter 83 = .ok (.iconst 1, 1) := by decide +kernel
theorem xd_N_enter_84 : decode xb_N_enter 84 = .ok (.iadd, 1) := by decide +kernel
theorem xd_N_enter_85 : decode xb_N_enter 85 = .ok (.aaload, 1) := by decide +kernel
theorem xd_N_enter_86 : decode xb_N_enter 86 = .ok (.iload 4, 2) := by decide +kernel
theorem xd_N_enter_88 : decode xb_N_enter 88 = .ok (.iload 5, 2) := by decide +kernel
theorem xd_N_enter_90 : decode xb_N_enter 90 = .ok (.iload 7, 2) := by decide +kernel
theorem xd_N_enter_92 : decode xb_N_enter 92 = .ok (.iload 8, 2) := by decide +kernel
theorem xd_N_enter_94 : decode xb_N_enter 94 = .ok (.invokevirtual 25, 3) := by decide +kernel
theorem xd_N_enter_97 : decode xb_N_enter 97 = .ok (.aload_n 0, 1) := by decide +kernel
theorem xd_N_enter_98 : decode xb_N_enter 98 = .ok (.aload_n 1, 1) := by decide +kernel
theorem xd_N_enter_99 : decode xb_N_enter 99 = .ok (.iload_n 2, 1) := by decide +kernel
theorem xd_N_enter_100 : decode xb_N_enter 100 = .ok (.iconst 1, 1) := by decide +kernel
theorem xd_N_enter_101 : decode xb_N_enter 101 = .ok (.iadd, 1) := by decide +kernel
theorem xd_N_enter_102 : decode xb_N_enter 102 = .ok (.iconst 0, 1) := by decide +kernel
theorem xd_N_enter_103 : decode xb_N_enter 103 = .ok (.invokevirtual 29, 3) := by decide +kernel
theorem xd_N_enter_106 : decode xb_N_enter 106 = .ok (.ireturn, 1) := by decide +kernel
theorem xd_N_combine_0 : decode xb_N_combine 0 = .ok (.aload_n 0, 1) := by decide +kernel
theorem xd_N_combine_1 : decode xb_N_combine 1 = .ok (.aload_n 1, 1) := by decide +kernel
theorem xd_N_combine_2 : decode xb_N_combine 2 = .ok (.iload_n 2, 1) := by decide +kernel
theorem xd_N_combine_3 : decode xb_N_combine 3 = .ok (.iload_n 3, 1) := by decide +kernel
theorem xd_N_combine_4 : decode xb_N_combine 4 = .ok (.iconst 1, 1) := by decide +kernel
theorem xd_N_combine_5 : decode xb_N_combine 5 = .ok (.iadd, 1) := by decide +kernel
theorem xd_N_combine_6 : decode xb_N_combine 6 = .ok (.invokevirtual 29, 3) := by decide +kernel
theorem xd_N_combine_9 : decode xb_N_combine 9 = .ok (.istore 5, 2) := by decide +kernel
theorem xd_N_combine_11 : decode xb_N_combine 11 = .ok (.aload_n 0, 1) := by decide +kernel
theorem xd_N_combine_12 : decode xb_N_combine 12 = .ok (.aload_n 1, 1) := by decide +kernel
theorem xd_N_combine_13 : decode xb_N_combine 13 = .ok (.iload_n 2, 1) := by decide +kernel
theorem xd_N_combine_14 : decode xb_N_combine 14 = .ok (.iload_n 3, 1) := by decide +kernel
theorem xd_N_combine_15 : decode xb_N_combine 15 = .ok (.iconst 1, 1) := by decide +kernel
theorem xd_N_combine_16 : decode xb_N_combine 16 = .ok (.iadd, 1) := by decide +kernel
theorem xd_N_combine_17 : decode xb_N_combine 17 = .ok (.invokevirtual 29, 3) := by decide +kernel
theorem xd_N_combine_20 : decode xb_N_combine 20 = .ok (.istore 6, 2) := by decide +kernel
theorem xd_N_combine_22 : decode xb_N_combine 22 = .ok (.aload_n 0, 1) := by decide +kernel
theorem xd_N_combine_23 : decode xb_N_combine 23 = .ok (.getfield 22, 3) := by decide +kernel
theorem xd_N_combine_26 : decode xb_N_combine 26 = .ok (.ifCond .eq 5, 3) := by decide +kernel
theorem xd_N_combine_29 : decode xb_N_combine 29 = .ok (.iconst 0, 1) := by decide +kernel
theorem xd_N_combine_30 : decode xb_N_combine 30 = .ok (.ireturn, 1) := by decide +kernel
theorem xd_N_combine_31 : decode xb_N_combine 31 = .ok (.iload 4, 2) := by decide +kernel
theorem xd_N_combine_33 : decode xb_N_combine 33 = .ok (.tableswitch 97 4 10 #[43, 49, 55, 61, 81, 97, 94], 43) := by decide +kernel
theorem xd_N_combine_76 : decode xb_N_combine 76 = .ok (.iload 5, 2) := by decide +kernel
theorem xd_N_combine_78 : decode xb_N_combine 78 = .ok (.iload 6, 2) := by decide +kernel
theorem xd_N_combine_80 : decode xb_N_combine 80 = .ok (.iadd, 1) := by decide +kernel
theorem xd_N_combine_81 : decode xb_N_combine 81 = .ok (.ireturn, 1) := by decide +kernel
theorem xd_N_combine_82 : decode xb_N_combine 82 = .ok (.iload 5, 2) := by decide +kernel
theorem xd_N_combine_84 : decode xb_N_combine 84 = .ok (.iload 6, 2) := by decide +kernel
theorem xd_N_combine_86 : decode xb_N_combine 86 = .ok (.isub, 1) := by decide +kernel
theorem xd_N_combine_87 : decode xb_N_combine 87 = .ok (.ireturn, 1) := by decide +kernel
theorem xd_N_combine_88 : decode xb_N_combine 88 = .ok (.iload 5, 2) := by decide +kernel
theorem xd_N_combine_90 : decode xb_N_combine 90 = .ok (.iload 6, 2) := by decide +kernel
theorem xd_N_combine_92 : decode xb_N_combine 92 = .ok (.imul, 1) := by decide +kernel
theorem xd_N_combine_93 : decode xb_N_combine 93 = .ok (.ireturn, 1) := by decide +kernel
theorem xd_N_combine_94 : decode xb_N_combine 94 = .ok (.iload 6, 2) := by decide +kernel
theorem xd_N_combine_96 : decode xb_N_combine 96 = .ok (.ifCond .ne 12, 3) := by decide +kernel
theorem xd_N_combine_99 : decode xb_N_combine 99 = .ok (.aload_n 0, 1) := by decide +kernel
theorem xd_N_combine_100 : decode xb_N_combine 100 = .ok (.bipush (-8), 2) := by decide +kernel
theorem xd_N_combine_102 : decode xb_N_combine 102 = .ok (.invokevirtual 66, 3) := by decide +kernel
theorem xd_N_combine_105 : decode xb_N_combine 105 = .ok (.goto 8, 3) := by decide +kernel
theorem xd_N_combine_108 : decode xb_N_combine 108 = .ok (.iload 5, 2) := by decide +kernel
theorem xd_N_combine_110 : decode xb_N_combine 110 = .ok (.iload 6, 2) := by decide +kernel
theorem xd_N_combine_112 : decode xb_N_combine 112 = .ok (.idiv, 1) := by decide +kernel
theorem xd_N_combine_113 : decode xb_N_combine 113 = .ok (.ireturn, 1) := by decide +kernel
theorem xd_N_combine_114 : decode xb_N_combine 114 = .ok (.iload 5, 2) := by decide +kernel
theorem xd_N_combine_116 : decode xb_N_combine 116 = .ok (.iload 6, 2) := by decide +kernel
theorem xd_N_combine_118 : decode xb_N_combine 118 = .ok (.if_icmp .ge 7, 3) := by decide +kernel
theorem xd_N_combine_121 : decode xb_N_combine 121 = .ok (.iconst 1, 1) := by decide +kernel
theorem xd_N_combine_122 : decode xb_N_combine 122 = .ok (.goto 4, 3) := by decide +kernel
theorem xd_N_combine_125 : decode xb_N_combine 125 = .ok (.iconst 0, 1) := by decide +kernel
theorem xd_N_combine_126 : decode xb_N_combine 126 = .ok (.ireturn, 1) := by decide +kernel
theorem xd_N_combine_127 : decode xb_N_combine 127 = .ok (.iload 6, 2) := by decide +kernel
theorem xd_N_combine_129 : decode xb_N_combine 129 = .ok (.ireturn, 1) := by decide +kernel
theorem xd_N_combine_130 : decode xb_N_combine 130 = .ok (.iconst 0, 1) := by decide +kernel
theorem xd_N_combine_131 : decode xb_N_combine 131 = .ok (.ireturn, 1) := by decide +kernel
theorem xd_N_work_0 : decode xb_N_work 0 = .ok (.aload_n 0, 1) := by decide +kernel
theorem xd_N_work_1 : decode xb_N_work 1 = .ok (.getfield 11, 3) := by decide +kernel
theorem xd_N_work_4 : decode xb_N_work 4 = .ok (.iload_n 2, 1) := by decide +kernel
theorem xd_N_work_5 : decode xb_N_work 5 = .ok (.aaload, 1) := by decide +kernel
theorem xd_N_work_6 : decode xb_N_work 6 = .ok (.astore 4, 2) := by decide +kernel
theorem xd_N_work_8 : decode xb_N_work 8 = .ok (.aload_n 1, 1) := by decide +kernel
theorem xd_N_work_9 : decode xb_N_work 9 = .ok (.getfield 33, 3) := by decide +kernel
theorem xd_N_work_12 : decode xb_N_work 12 = .ok (.aload 4, 2) := by decide +kernel
theorem xd_N_work_14 : decode xb_N_work 14 = .ok (.getfield 39, 3) := by decide +kernel
theorem xd_N_work_17 : decode xb_N_work 17 = .ok (.aaload, 1) := by decide +kernel
theorem xd_N_work_18 : decode xb_N_work 18 = .ok (.getfield 42, 3) := by decide +kernel
theorem xd_N_work_21 : decode xb_N_work 21 = .ok (.getfield 48, 3) := by decide +kernel
theorem xd_N_work_24 : decode xb_N_work 24 = .ok (.astore 5, 2) := by decide +kernel
theorem xd_N_work_26 : decode xb_N_work 26 = .ok (.aload_n 0, 1) := by decide +kernel
theorem xd_N_work_27 : decode xb_N_work 27 = .ok (.getfield 22, 3) := by decide +kernel
theorem xd_N_work_30 : decode xb_N_work 30 = .ok (.ifCond .ne 26, 3) := by decide +kernel
theorem xd_N_work_33 : decode xb_N_work 33 = .ok (.iload_n 3, 1) := by decide +kernel
theorem xd_N_work_34 : decode xb_N_work 34 = .ok (.iconst 4, 1) := by decide +kernel
theorem xd_N_work_35 : decode xb_N_work 35 = .ok (.if_icmp .gt 21, 3) := by decide +kernel
theorem xd_N_work_38 : decode xb_N_work 38 = .ok (.aload 4, 2) := by decide +kernel
theorem xd_N_work_40 : decode xb_N_work 40 = .ok (.getfield 54, 3) := by decide +kernel
theorem xd_N_work_43 : decode xb_N_work 43 = .ok (.aload 5, 2) := by decide +kernel
theorem xd_N_work_45 : decode xb_N_work 45 = .ok (.aload 4, 2) := by decide +kernel
theorem xd_N_work_47 : decode xb_N_work 47 = .ok (.getfield 57, 3) := by decide +kernel
theorem xd_N_work_50 : decode xb_N_work 50 = .ok (.invokevirtual 60, 3) := by decide +kernel
theorem xd_N_work_53 : decode xb_N_work 53 = .ok (.if_icmp .lt 5, 3) := by decide +kernel
theorem xd_N_work_56 : decode xb_N_work 56 = .ok (.iconst 0, 1) := by decide +kernel
theorem xd_N_work_57 : decode xb_N_work 57 = .ok (.ireturn, 1) := by decide +kernel
theorem xd_N_work_58 : decode xb_N_work 58 = .ok (.aload_n 0, 1) := by decide +kernel
theorem xd_N_work_59 : decode xb_N_work 59 = .ok (.getfield 18, 3) := by decide +kernel
theorem xd_N_work_62 : decode xb_N_work 62 = .ok (.bipush 120, 2) := by decide +kernel
theorem xd_N_work_64 : decode xb_N_work 64 = .ok (.if_icmp .lt 10, 3) := by decide +kernel
theorem xd_N_work_67 : decode xb_N_work 67 = .ok (.aload_n 0, 1) := by decide +kernel
theorem xd_N_work_68 : decode xb_N_work 68 = .ok (.bipush (-10), 2) := by decide +kernel
theorem xd_N_work_70 : decode xb_N_work 70 = .ok (.invokevirtual 66, 3) := by decide +kernel
theorem xd_N_work_73 : decode xb_N_work 73 = .ok (.ireturn, 1) := by decide +kernel
theorem xd_N_work_74 : decode xb_N_work 74 = .ok (.aload_n 0, 1) := by decide +kernel
theorem xd_N_work_75 : decode xb_N_work 75 = .ok (.dup, 1) := by decide +kernel
theorem xd_N_work_76 : decode xb_N_work 76 = .ok (.getfield 18, 3) := by decide +kernel
theorem xd_N_work_79 : decode xb_N_work 79 = .ok (.iconst 1, 1) := by decide +kernel
theorem xd_N_work_80 : decode xb_N_work 80 = .ok (.iadd, 1) := by decide +kernel
theorem xd_N_work_81 : decode xb_N_work 81 = .ok (.putfield 18, 3) := by decide +kernel
theorem xd_N_work_84 : decode xb_N_work 84 = .ok (.aload 5, 2) := by decide +kernel
theorem xd_N_work_86 : decode xb_N_work 86 = .ok (.aload 4, 2) := by decide +kernel
theorem xd_N_work_88 : decode xb_N_work 88 = .ok (.getfield 57, 3) := by decide +kernel
theorem xd_N_work_91 : decode xb_N_work 91 = .ok (.aload 4, 2) := by decide +kernel
theorem xd_N_work_93 : decode xb_N_work 93 = .ok (.getfield 54, 3) := by decide +kernel
theorem xd_N_work_96 : decode xb_N_work 96 = .ok (.invokevirtual 69, 3) := by decide +kernel
theorem xd_N_work_99 : decode xb_N_work 99 = .ok (.istore 6, 2) := by decide +kernel
theorem xd_N_work_101 : decode xb_N_work 101 = .ok (.aload 4, 2) := by decide +kernel
theorem xd_N_work_103 : decode xb_N_work 103 = .ok (.dup, 1) := by decide +kernel
theorem xd_N_work_104 : decode xb_N_work 104 = .ok (.getfield 54, 3) := by decide +kernel
theorem xd_N_work_107 : decode xb_N_work 107 = .ok (.iconst 1, 1) := by decide +kernel
theorem xd_N_work_108 : decode xb_N_work 108 = .ok (.iadd, 1) := by decide +kernel
theorem xd_N_work_109 : decode xb_N_work 109 = .ok (.putfield 54, 3) := by decide +kernel
theorem xd_N_work_112 : decode xb_N_work 112 = .ok (.aload 5, 2) := by decide +kernel
theorem xd_N_work_114 : decode xb_N_work 114 = .ok (.getfield 73, 3) := by decide +kernel
theorem xd_N_work_117 : decode xb_N_work 117 = .ok (.iload 6, 2) := by decide +kernel
theorem xd_N_work_119 : decode xb_N_work 119 = .ok (.iaload, 1) := by decide +kernel
theorem xd_N_work_120 : decode xb_N_work 120 = .ok (.istore 7, 2) := by decide +kernel
theorem xd_N_work_122 : decode xb_N_work 122 = .ok (.aload 5, 2) := by decide +kernel
theorem xd_N_work_124 : decode xb_N_work 124 = .ok (.getfield 77, 3) := by decide +kernel
theorem xd_N_work_127 : decode xb_N_work 127 = .ok (.iload 6, 2) := by decide +kernel
theorem xd_N_work_129 : decode xb_N_work 129 = .ok (.iaload, 1) := by decide +kernel
theorem xd_N_work_130 : decode xb_N_work 130 = .ok (.istore 8, 2) := by decide +kernel
theorem xd_N_work_132 : decode xb_N_work 132 = .ok (.aload 5, 2) := by decide +kernel
theorem xd_N_work_134 : decode xb_N_work 134 = .ok (.getfield 80, 3) := by decide +kernel
theorem xd_N_work_137 : decode xb_N_work 137 = .ok (.iload 6, 2) := by decide +kernel
theorem xd_N_work_139 : decode xb_N_work 139 = .ok (.iaload, 1) := by decide +kernel
theorem xd_N_work_140 : decode xb_N_work 140 = .ok (.tableswitch 125 0 11 #[64, 67, 86, 95, 125, 125, 125, 125, 125, 105, 125, 113], 64) := by decide +kernel
theorem xd_N_work_204 : decode xb_N_work 204 = .ok (.iload 7, 2) := by decide +kernel
theorem xd_N_work_206 : decode xb_N_work 206 = .ok (.ireturn, 1) := by decide +kernel
theorem xd_N_work_207 : decode xb_N_work 207 = .ok (.iload 7, 2) := by decide +kernel
theorem xd_N_work_209 : decode xb_N_work 209 = .ok (.ifCond .ne 11, 3) := by decide +kernel
theorem xd_N_work_212 : decode xb_N_work 212 = .ok (.aload 4, 2) := by decide +kernel
theorem xd_N_work_214 : decode xb_N_work 214 = .ok (.getfield 83, 3) := by decide +kernel
theorem xd_N_work_217 : decode xb_N_work 217 = .ok (.goto 8, 3) := by decide +kernel
theorem xd_N_work_220 : decode xb_N_work 220 = .ok (.aload 4, 2) := by decide +kernel
theorem xd_N_work_222 : decode xb_N_work 222 = .ok (.getfield 86, 3) := by decide +kernel
theorem xd_N_work_225 : decode xb_N_work 225 = .ok (.ireturn, 1) := by decide +kernel
theorem xd_N_work_226 : decode xb_N_work 226 = .ok (.aload_n 1, 1) := by decide +kernel
theorem xd_N_work_227 : decode xb_N_work 227 = .ok (.iload 7, 2) := by decide +kernel
theorem xd_N_work_229 : decode xb_N_work 229 = .ok (.iload 8, 2) := by decide +kernel
theorem xd_N_work_231 : decode xb_N_work 231 = .ok (.invokevirtual 89, 3) := by decide +kernel
theorem xd_N_work_234 : decode xb_N_work 234 = .ok (.ireturn, 1) := by decide +kernel
theorem xd_N_work_235 : decode xb_N_work 235 = .ok (.aload_n 0, 1) := by decide +kernel
theorem xd_N_work_236 : decode xb_N_work 236 = .ok (.aload_n 1, 1) := by decide +kernel
theorem xd_N_work_237 : decode xb_N_work 237 = .ok (.iload_n 2, 1) := by decide +kernel
theorem xd_N_work_238 : decode xb_N_work 238 = .ok (.iload_n 3, 1) := by decide +kernel
theorem xd_N_work_239 : decode xb_N_work 239 = .ok (.iload 8, 2) := by decide +kernel
theorem xd_N_work_241 : decode xb_N_work 241 = .ok (.invokevirtual 92, 3) := by decide +kernel
theorem xd_N_work_244 : decode xb_N_work 244 = .ok (.ireturn, 1) := by decide +kernel
theorem xd_N_work_245 : decode xb_N_work 245 = .ok (.aload_n 0, 1) := by decide +kernel
theorem xd_N_work_246 : decode xb_N_work 246 = .ok (.aload_n 1, 1) := by decide +kernel
theorem xd_N_work_247 : decode xb_N_work 247 = .ok (.iload_n 2, 1) := by decide +kernel
theorem xd_N_work_248 : decode xb_N_work 248 = .ok (.iload_n 3, 1) := by decide +kernel
theorem xd_N_work_249 : decode xb_N_work 249 = .ok (.invokevirtual 96, 3) := by decide +kernel
theorem xd_N_work_252 : decode xb_N_work 252 = .ok (.ireturn, 1) := by decide +kernel
theorem xd_N_work_253 : decode xb_N_work 253 = .ok (.aload_n 0, 1) := by decide +kernel
theorem xd_N_work_254 : decode xb_N_work 254 = .ok (.aload_n 1, 1) := by decide +kernel
theorem xd_N_work_255 : decode xb_N_work 255 = .ok (.iload_n 2, 1) := by decide +kernel
theorem xd_N_work_256 : decode xb_N_work 256 = .ok (.iload_n 3, 1) := by decide +kernel
theorem xd_N_work_257 : decode xb_N_work 257 = .ok (.iload 7, 2) := by decide +kernel
theorem xd_N_work_259 : decode xb_N_work 259 = .ok (.iload 8, 2) := by decide +kernel
theorem xd_N_work_261 : decode xb_N_work 261 = .ok (.invokevirtual 99, 3) := by decide +kernel
theorem xd_N_work_264 : decode xb_N_work 264 = .ok (.ireturn, 1) := by decide +kernel
theorem xd_N_work_265 : decode xb_N_work 265 = .ok (.aload_n 0, 1) := by decide +kernel
theorem xd_N_work_266 : decode xb_N_work 266 = .ok (.aload_n 1, 1) := by decide +kernel
theorem xd_N_work_267 : decode xb_N_work 267 = .ok (.iload_n 2, 1) := by decide +kernel
theorem xd_N_work_268 : decode xb_N_work 268 = .ok (.iload_n 3, 1) := by decide +kernel
theorem xd_N_work_269 : decode xb_N_work 269 = .ok (.aload 5, 2) := by decide +kernel
theorem xd_N_work_271 : decode xb_N_work 271 = .ok (.getfield 80, 3) := by decide +kernel
theorem xd_N_work_274 : decode xb_N_work 274 = .ok (.iload 6, 2) := by decide +kernel
theorem xd_N_work_276 : decode xb_N_work 276 = .ok (.iaload, 1) := by decide +kernel
theorem xd_N_work_277 : decode xb_N_work 277 = .ok (.invokevirtual 103, 3) := by decide +kernel
theorem xd_N_work_280 : decode xb_N_work 280 = .ok (.ireturn, 1) := by decide +kernel
theorem xd_N_start_0 : decode xb_N_start 0 = .ok (.aload_n 0, 1) := by decide +kernel
theorem xd_N_start_1 : decode xb_N_start 1 = .ok (.iconst 0, 1) := by decide +kernel
theorem xd_N_start_2 : decode xb_N_start 2 = .ok (.putfield 18, 3) := by decide +kernel
theorem xd_N_start_5 : decode xb_N_start 5 = .ok (.aload_n 0, 1) := by decide +kernel
theorem xd_N_start_6 : decode xb_N_start 6 = .ok (.iconst 0, 1) := by decide +kernel
theorem xd_N_start_7 : decode xb_N_start 7 = .ok (.putfield 22, 3) := by decide +kernel
theorem xd_N_start_10 : decode xb_N_start 10 = .ok (.aload_n 0, 1) := by decide +kernel
theorem xd_N_start_11 : decode xb_N_start 11 = .ok (.getfield 11, 3) := by decide +kernel
theorem xd_N_start_14 : decode xb_N_start 14 = .ok (.iconst 0, 1) := by decide +kernel
theorem xd_N_start_15 : decode xb_N_start 15 = .ok (.aaload, 1) := by decide +kernel
theorem xd_N_start_16 : decode xb_N_start 16 = .ok (.iload_n 2, 1) := by decide +kernel
theorem xd_N_start_17 : decode xb_N_start 17 = .ok (.iload_n 3, 1) := by decide +kernel
theorem xd_N_start_18 : decode xb_N_start 18 = .ok (.iload 4, 2) := by decide +kernel
theorem xd_N_start_20 : decode xb_N_start 20 = .ok (.iload 5, 2) := by decide +kernel
theorem xd_N_start_22 : decode xb_N_start 22 = .ok (.invokevirtual 25, 3) := by decide +kernel
theorem xd_N_start_25 : decode xb_N_start 25 = .ok (.aload_n 0, 1) := by decide +kernel
theorem xd_N_start_26 : decode xb_N_start 26 = .ok (.aload_n 1, 1) := by decide +kernel
theorem xd_N_start_27 : decode xb_N_start 27 = .ok (.iconst 0, 1) := by decide +kernel
theorem xd_N_start_28 : decode xb_N_start 28 = .ok (.iconst 0, 1) := by decide +kernel
theorem xd_N_start_29 : decode xb_N_start 29 = .ok (.invokevirtual 29, 3) := by decide +kernel
theorem xd_N_start_32 : decode xb_N_start 32 = .ok (.ireturn, 1) := by decide +kernel
section
variable {l : Launch} {D : va_G} {ad : Nat → Nat} {ids : Nat → ClassId} {ps : Nat}
def xm_N_fail (σ : aw_m) (k0 : Nat) (a1 : Int32) : Option (Int32 × aw_m) := aw_l (aw_p σ k0 2 a1) fun s_2 => some ((0 : Int32), s_2)
set_option maxHeartbeats 4000000 in
set_option maxRecDepth 100000 in
theorem xc_N_fail (σ : aw_m) (k0 : Nat) (a1 : Int32) (q : Int32 × aw_m) (hk0 : kd_k k0 = 12) (hm : xm_N_fail σ k0 a1 = some q) : aw_M l D (ty_z ids) (zs_T ps) xy_N_fail (xw_N_fail :: gw_l) (rm_D (0)) [.ref (ad k0), .int a1] (cw_w ad ids σ) (some (.int q.1)) (cw_w ad ids q.2) := by
  refine aw_intro (cc := xb_N_fail) (n := 2) (ret := (some .int)) "ModuleShelf$Machine" rfl (by decide) rfl (Nat.le_of_ble_eq_true rfl) ?_
  intro κ C
  unfold xm_N_fail at hm
  refine aw_aload_n C 0 xd_N_fail_0 rfl rfl ?_
  refine aw_iload_n C 1 xd_N_fail_1 rfl rfl ?_
  obtain ⟨s_2, h_2, hm⟩ := aw_let hm
  refine aw_put (σ1 := s_2) (f := upd (σ k0) 2 a1) C k0 (kd_lt hk0) (ly_N hk0) rfl (fun w h => List.mem_cons_of_mem _ (xi_N w h)) xk_N xo_N xn_N 2 (by decide) (List.mem_cons_of_mem _ fl_N_22) rfl (ty := .int) (by decide +kernel) rfl rfl (Nat.le_of_ble_eq_true rfl) (ly_N hk0) h_2 xd_N_fail_2 ?_
  refine aw_iconst (v := (0 : Int32)) C xd_N_fail_5 (by decide) ?_
  cases hm
  exact aw_iret C xd_N_fail_6
def xq_N_skip_29  : Nat → aw_m → Nat → Nat → Nat → Nat → Int32 → Int32 → Option aw_m
  | 0, _, _, _, _, _, _, _ => none
  | n + 1, σ, j0, j1, j2, j3, v4, v5 => (if v5 ≤ 0 then some σ else (if v4 ≤ σ j2 4 then some σ else (xm_C_cellOf σ j3 (σ j2 1) (σ j2 4)).bind fun q_52 => if aw_in q_52 42 = true then (if σ (j3 + 3) (Int32.toNatClampNeg q_52) = (11 : Int32) then if aw_in q_52 42 = true then if aw_in q_52 42 = true then (xm_M_argumentsOf σ j1 (σ (j3 + 4) (Int32.toNatClampNeg q_52)) (σ (j3 + 5) (Int32.toNatClampNeg q_52))).bind fun q_88 => aw_l (aw_p σ j2 4 ((σ j2 4) + (1 : Int32))) fun s_122 => xq_N_skip_29 n s_122 j0 j1 j2 j3 v4 (v5 + ((aw_max (0 : Int32) q_88) - (1 : Int32))) else none else none else if aw_in (σ (j3 + 3) (Int32.toNatClampNeg q_52)) 12 = true then aw_l (aw_p σ j2 4 ((σ j2 4) + (1 : Int32))) fun s_122 => xq_N_skip_29 n s_122 j0 j1 j2 j3 v4 (v5 + ((aw_max (0 : Int32) (zp_parts (Int32.toNatClampNeg (σ (j3 + 3) (Int32.toNatClampNeg q_52))))) - (1 : Int32))) else none) else none))
def xm_N_skip (σ : aw_m) (k0 : Nat) (k1 : Nat) (k2 : Nat) : Option aw_m := if aw_in (σ k2 0) 6 = true then (xm_C_lengthOf σ (((k1 + 1 + 2 + 11 * (Int32.toNatClampNeg (σ k2 0))) + 1) + 3) (σ k2 1)).bind fun q_21 => xq_N_skip_29 64 σ k0 k1 k2 (((k1 + 1 + 2 + 11 * (Int32.toNatClampNeg (σ k2 0))) + 1) + 3) q_21 (1 : Int32) else none
set_option maxHeartbeats 4000000 in
set_option maxRecDepth 100000 in
theorem xl_N_skip_29  {κ : aw_K} (q : aw_m) (C : aw_X l D (ty_z ids) (zs_T ps) (rm_D (3)) xb_N_skip 9 "ModuleShelf$Machine" (xw_N_skip :: gw_l) none none (cw_w ad ids q) κ) : ∀ (n : Nat) (σ : aw_m) (j0 : Nat) (j1 : Nat) (j2 : Nat) (j3 : Nat) (v4 : Int32) (v5 : Int32) (hj0 : kd_k j0 = 12) (hj1 : kd_k j1 = 8) (hj2 : kd_k j2 = 14) (hj3 : kd_k j3 = 1), xq_N_skip_29 n σ j0 j1 j2 j3 v4 v5 = some q → aw_J κ 0 0 (cw_w ad ids σ) [(0, .ref (ad j0)), (1, .ref (ad j1)), (2, .ref (ad j2)), (3, .ref (ad j3)), (4, .int v4), (5, .int v5)] 29 [] := by
  intro n
  induction n with
  | zero => intro σ j0 j1 j2 j3 v4 v5 hj0 hj1 hj2 hj3 hm; cases hm
  | succ n ih =>
    intro σ j0 j1 j2 j3 v4 v5 hj0 hj1 hj2 hj3 hm
    rw [xq_N_skip_29] at hm
    refine aw_iload C 5 xd_N_skip_29 rfl ?_
    refine aw_if_le (tgt := 128) C xd_N_skip_31 (by decide) (fun c_31 => ?_) (fun c_31 => ?_)
    · rw [if_pos c_31] at hm
      cases hm
      exact aw_vret C xd_N_skip_128
    · rw [if_neg c_31] at hm
      refine aw_aload_n C 2 xd_N_skip_34 rfl rfl ?_
      refine aw_get C j2 (kd_lt hj2) (ly_F hj2) rfl (fun w h => List.mem_cons_of_mem _ (xi_F w h)) 4 (by decide) rfl (List.mem_cons_of_mem _ fl_N_54) xd_N_skip_35 ?_
      refine aw_iload C 4 xd_N_skip_38 rfl ?_
      refine aw_icmp_ge (tgt := 128) C xd_N_skip_40 (by decide) (fun c_40 => ?_) (fun c_40 => ?_)
      · rw [if_pos c_40] at hm
        cases hm
        exact aw_vret C xd_N_skip_128
      · rw [if_neg c_40] at hm
        refine aw_aload_n C 3 xd_N_skip_43 rfl rfl ?_
        refine aw_aload_n C 2 xd_N_skip_44 rfl rfl ?_
        refine aw_get C j2 (kd_lt hj2) (ly_F hj2) rfl (fun w h => List.mem_cons_of_mem _ (xi_F w h)) 1 (by decide) rfl (List.mem_cons_of_mem _ fl_N_57) xd_N_skip_45 ?_
        refine aw_aload_n C 2 xd_N_skip_48 rfl rfl ?_
        refine aw_get C j2 (kd_lt hj2) (ly_F hj2) rfl (fun w h => List.mem_cons_of_mem _ (xi_F w h)) 4 (by decide) rfl (List.mem_cons_of_mem _ fl_N_54) xd_N_skip_49 ?_
        obtain ⟨q_52, e_52, hm⟩ := aw_bnd hm
        refine aw_callVi (As := [.int (σ j2 1), .int (σ j2 4)]) (rest := []) (b := ad j3) C (xc_C_cellOf σ j3 (σ j2 1) (σ j2 4) _ hj3 e_52) rfl (gw_sub (gw_V xg_C_cellOf ml_N_69 im_C_cellOf se_C_cellOf wi_C)) na_C_cellOf (rm_lt (by decide) (by decide)) ⟨Nat.zero_le _, Nat.zero_le _⟩ j3 (at_C hj3) rfl rfl (Nat.le_of_ble_eq_true rfl) xd_N_skip_52 ?_
        refine aw_istore (L' := [(6, .int q_52), (0, .ref (ad j0)), (1, .ref (ad j1)), (2, .ref (ad j2)), (3, .ref (ad j3)), (4, .int v4), (5, .int v5)]) C xd_N_skip_55 (by decide) rfl ?_
        refine aw_aload_n C 4 xd_N_skip_57 rfl rfl ?_
        refine aw_get C j3 (kd_lt hj3) (ly_C hj3) rfl (fun w h => List.mem_cons_of_mem _ (xi_C w h)) 4 (by decide) rfl (List.mem_cons_of_mem _ fl_N_80) xd_N_skip_58 ?_
        refine aw_iload C 0 xd_N_skip_61 rfl ?_
        obtain ⟨g_63, hm⟩ := aw_grd hm
        refine aw_iald C (j3 + 3) (kd_lt (kf_C_ops hj3)) 0 (ly_A42 (kf_C_ops hj3)) rfl (aw_in_ok g_63) xd_N_skip_63 ?_
        refine aw_istore (L' := [(7, .int (σ (j3 + 3) (Int32.toNatClampNeg q_52))), (6, .int q_52), (0, .ref (ad j0)), (1, .ref (ad j1)), (2, .ref (ad j2)), (3, .ref (ad j3)), (4, .int v4), (5, .int v5)]) C xd_N_skip_64 (by decide) rfl ?_
        refine aw_iload C 0 xd_N_skip_66 rfl ?_
        refine aw_bipush (v := (11 : Int32)) C xd_N_skip_68 (by decide) ?_
        refine aw_icmp_ne (tgt := 94) C xd_N_skip_70 (by decide) (fun c_70 => ?_) (fun c_70 => ?_)
        · rw [if_neg c_70] at hm
          refine aw_getsN C (z := (("ModuleShelf", "PARTS"), ps, 12, zp_parts)) List.mem_cons_self (List.mem_of_getElem? (i := 9) rfl) xd_N_skip_94 ?_
          refine aw_iload C 0 xd_N_skip_97 rfl ?_
          obtain ⟨g_99, hm⟩ := aw_grd hm
          refine aw_sald C (z := (("ModuleShelf", "PARTS"), ps, 12, zp_parts)) List.mem_cons_self (aw_in_ok g_99) xd_N_skip_99 ?_
          refine aw_istore (L' := [(8, .int (zp_parts (Int32.toNatClampNeg (σ (j3 + 3) (Int32.toNatClampNeg q_52))))), (7, .int (σ (j3 + 3) (Int32.toNatClampNeg q_52))), (6, .int q_52), (0, .ref (ad j0)), (1, .ref (ad j1)), (2, .ref (ad j2)), (3, .ref (ad j3)), (4, .int v4), (5, .int v5)]) C xd_N_skip_100 (by decide) rfl ?_
          refine aw_iload C 8 xd_N_skip_102 rfl ?_
          refine aw_iconst (v := (0 : Int32)) C xd_N_skip_104 (by decide) ?_
          refine aw_iload C 0 xd_N_skip_105 rfl ?_
          refine aw_mmax C (List.mem_cons_of_mem _ ml_N_120) (List.mem_cons_of_mem _ ws_max) (List.mem_cons_of_mem _ wi_math) (List.mem_cons_of_mem _ wc_max) (by decide) (Nat.le_of_ble_eq_true rfl) ⟨Nat.zero_le _, Nat.zero_le _⟩ xd_N_skip_107 ?_
          refine aw_iconst (v := (1 : Int32)) C xd_N_skip_110 (by decide) ?_
          refine aw_isub C xd_N_skip_111 ?_
          refine aw_iadd C xd_N_skip_112 ?_
          refine aw_istore (L' := [(5, .int (v5 + ((aw_max (0 : Int32) (zp_parts (Int32.toNatClampNeg (σ (j3 + 3) (Int32.toNatClampNeg q_52))))) - (1 : Int32)))), (8, .int (zp_parts (Int32.toNatClampNeg (σ (j3 + 3) (Int32.toNatClampNeg q_52))))), (7, .int (σ (j3 + 3) (Int32.toNatClampNeg q_52))), (6, .int q_52), (0, .ref (ad j0)), (1, .ref (ad j1)), (2, .ref (ad j2)), (3, .ref (ad j3)), (4, .int v4)]) C xd_N_skip_113 (by decide) rfl ?_
          refine aw_aload_n C 6 xd_N_skip_115 rfl rfl ?_
          refine aw_dup C xd_N_skip_116 rfl ?_
          refine aw_get C j2 (kd_lt hj2) (ly_F hj2) rfl (fun w h => List.mem_cons_of_mem _ (xi_F w h)) 4 (by decide) rfl (List.mem_cons_of_mem _ fl_N_54) xd_N_skip_117 ?_
          refine aw_iconst (v := (1 : Int32)) C xd_N_skip_120 (by decide) ?_
          refine aw_iadd C xd_N_skip_121 ?_
          obtain ⟨s_122, h_122, hm⟩ := aw_let hm
          refine aw_put (σ1 := s_122) (f := upd (σ j2) 4 ((σ j2 4) + (1 : Int32))) C j2 (kd_lt hj2) (ly_F hj2) rfl (fun w h => List.mem_cons_of_mem _ (xi_F w h)) xk_F xo_F xn_F 4 (by decide) (List.mem_cons_of_mem _ fl_N_54) rfl (ty := .int) (by decide +kernel) rfl rfl (Nat.le_of_ble_eq_true rfl) (ly_F hj2) h_122 xd_N_skip_122 ?_
          refine aw_goto (tgt := 29) C xd_N_skip_125 (by decide) ?_
          refine aw_loc (L' := [(0, .ref (ad j0)), (1, .ref (ad j1)), (2, .ref (ad j2)), (3, .ref (ad j3)), (4, .int v4), (5, .int (v5 + ((aw_max (0 : Int32) (zp_parts (Int32.toNatClampNeg (σ (j3 + 3) (Int32.toNatClampNeg q_52))))) - (1 : Int32))))]) C [4, 5, 6, 7, 8, 0] rfl ?_
          exact ih s_122 j0 j1 j2 j3 v4 (v5 + ((aw_max (0 : Int32) (zp_parts (Int32.toNatClampNeg (σ (j3 + 3) (Int32.toNatClampNeg q_52))))) - (1 : Int32))) hj0 hj1 hj2 hj3 hm
        · rw [if_pos c_70] at hm
          refine aw_aload_n C 3 xd_N_skip_73 rfl rfl ?_
          refine aw_aload_n C 5 xd_N_skip_74 rfl rfl ?_
          refine aw_get C j3 (kd_lt hj3) (ly_C hj3) rfl (fun w h => List.mem_cons_of_mem _ (xi_C w h)) 5 (by decide) rfl (List.mem_cons_of_mem _ fl_N_73) xd_N_skip_75 ?_
          refine aw_iload C 1 xd_N_skip_78 rfl ?_
          obtain ⟨g_80, hm⟩ := aw_grd hm
          refine aw_iald C (j3 + 4) (kd_lt (kf_C_as hj3)) 0 (ly_A42 (kf_C_as hj3)) rfl (aw_in_ok g_80) xd_N_skip_80 ?_
          refine aw_aload_n C 5 xd_N_skip_81 rfl rfl ?_
          refine aw_get C j3 (kd_lt hj3) (ly_C hj3) rfl (fun w h => List.mem_cons_of_mem _ (xi_C w h)) 6 (by decide) rfl (List.mem_cons_of_mem _ fl_N_77) xd_N_skip_82 ?_
          refine aw_iload C 1 xd_N_skip_85 rfl ?_
          obtain ⟨g_87, hm⟩ := aw_grd hm
          refine aw_iald C (j3 + 5) (kd_lt (kf_C_bs hj3)) 0 (ly_A42 (kf_C_bs hj3)) rfl (aw_in_ok g_87) xd_N_skip_87 ?_
          obtain ⟨q_88, e_88, hm⟩ := aw_bnd hm
          refine aw_callVi (As := [.int (σ (j3 + 4) (Int32.toNatClampNeg q_52)), .int (σ (j3 + 5) (Int32.toNatClampNeg q_52))]) (rest := []) (b := ad j1) C (xc_M_argumentsOf σ j1 (σ (j3 + 4) (Int32.toNatClampNeg q_52)) (σ (j3 + 5) (Int32.toNatClampNeg q_52)) _ hj1 e_88) rfl (gw_sub (gw_V xg_M_argumentsOf ml_N_114 im_M_argumentsOf se_M_argumentsOf wi_M)) na_M_argumentsOf (rm_lt (by decide) (by decide)) ⟨Nat.zero_le _, Nat.zero_le _⟩ j1 (at_M hj1) rfl rfl (Nat.le_of_ble_eq_true rfl) xd_N_skip_88 ?_
          refine aw_goto (tgt := 100) C xd_N_skip_91 (by decide) ?_
          refine aw_istore (L' := [(8, .int q_88), (7, .int (σ (j3 + 3) (Int32.toNatClampNeg q_52))), (6, .int q_52), (0, .ref (ad j0)), (1, .ref (ad j1)), (2, .ref (ad j2)), (3, .ref (ad j3)), (4, .int v4), (5, .int v5)]) C xd_N_skip_100 (by decide) rfl ?_
          refine aw_iload C 8 xd_N_skip_102 rfl ?_
          refine aw_iconst (v := (0 : Int32)) C xd_N_skip_104 (by decide) ?_
          refine aw_iload C 0 xd_N_skip_105 rfl ?_
          refine aw_mmax C (List.mem_cons_of_mem _ ml_N_120) (List.mem_cons_of_mem _ ws_max) (List.mem_cons_of_mem _ wi_math) (List.mem_cons_of_mem _ wc_max) (by decide) (Nat.le_of_ble_eq_true rfl) ⟨Nat.zero_le _, Nat.zero_le _⟩ xd_N_skip_107 ?_
          refine aw_iconst (v := (1 : Int32)) C xd_N_skip_110 (by decide) ?_
          refine aw_isub C xd_N_skip_111 ?_
          refine aw_iadd C xd_N_skip_112 ?_
          refine aw_istore (L' := [(5, .int (v5 + ((aw_max (0 : Int32) q_88) - (1 : Int32)))), (8, .int q_88), (7, .int (σ (j3 + 3) (Int32.toNatClampNeg q_52))), (6, .int q_52), (0, .ref (ad j0)), (1, .ref (ad j1)), (2, .ref (ad j2)), (3, .ref (ad j3)), (4, .int v4)]) C xd_N_skip_113 (by decide) rfl ?_
          refine aw_aload_n C 6 xd_N_skip_115 rfl rfl ?_
          refine aw_dup C xd_N_skip_116 rfl ?_
          refine aw_get C j2 (kd_lt hj2) (ly_F hj2) rfl (fun w h => List.mem_cons_of_mem _ (xi_F w h)) 4 (by decide) rfl (List.mem_cons_of_mem _ fl_N_54) xd_N_skip_117 ?_
          refine aw_iconst (v := (1 : Int32)) C xd_N_skip_120 (by decide) ?_
          refine aw_iadd C xd_N_skip_121 ?_
          obtain ⟨s_122, h_122, hm⟩ := aw_let hm
          refine aw_put (σ1 := s_122) (f := upd (σ j2) 4 ((σ j2 4) + (1 : Int32))) C j2 (kd_lt hj2) (ly_F hj2) rfl (fun w h => List.mem_cons_of_mem _ (xi_F w h)) xk_F xo_F xn_F 4 (by decide) (List.mem_cons_of_mem _ fl_N_54) rfl (ty := .int) (by decide +kernel) rfl rfl (Nat.le_of_ble_eq_true rfl) (ly_F hj2) h_122 xd_N_skip_122 ?_
          refine aw_goto (tgt := 29) C xd_N_skip_125 (by decide) ?_
          refine aw_loc (L' := [(0, .ref (ad j0)), (1, .ref (ad j1)), (2, .ref (ad j2)), (3, .ref (ad j3)), (4, .int v4), (5, .int (v5 + ((aw_max (0 : Int32) q_88) - (1 : Int32))))]) C [4, 5, 6, 7, 8, 0] rfl ?_
          exact ih s_122 j0 j1 j2 j3 v4 (v5 + ((aw_max (0 : Int32) q_88) - (1 : Int32))) hj0 hj1 hj2 hj3 hm
set_option maxHeartbeats 4000000 in
set_option maxRecDepth 100000 in
theorem xc_N_skip (σ : aw_m) (k0 : Nat) (k1 : Nat) (k2 : Nat) (q : aw_m) (hk0 : kd_k k0 = 12) (hk1 : kd_k k1 = 8) (hk2 : kd_k k2 = 14) (hm : xm_N_skip σ k0 k1 k2 = some q) : aw_M l D (ty_z ids) (zs_T ps) xy_N_skip (xw_N_skip :: gw_l) (rm_D (3)) [.ref (ad k0), .ref (ad k1), .ref (ad k2)] (cw_w ad ids σ) none (cw_w ad ids q) := by
  refine aw_intro (cc := xb_N_skip) (n := 9) (ret := none) "ModuleShelf$Machine" rfl (by decide) rfl (Nat.le_of_ble_eq_true rfl) ?_
  intro κ C
  unfold xm_N_skip at hm
  refine aw_aload_n C 1 xd_N_skip_0 rfl rfl ?_
  refine aw_get C k1 (kd_lt hk1) (ly_M hk1) rfl (fun w h => List.mem_cons_of_mem _ (xi_M w h)) 0 (by decide) rfl (List.mem_cons_of_mem _ fl_N_33) xd_N_skip_1 ?_
  refine aw_aload_n C 2 xd_N_skip_4 rfl rfl ?_
  refine aw_get C k2 (kd_lt hk2) (ly_F hk2) rfl (fun w h => List.mem_cons_of_mem _ (xi_F w h)) 0 (by decide) rfl (List.mem_cons_of_mem _ fl_N_39) xd_N_skip_5 ?_
  obtain ⟨g_8, hm⟩ := aw_grd hm
  refine aw_aald C (k1 + 1) (kd_lt (kf_M_images hk1)) 3 (ly_I6 (kf_M_images hk1)) rfl (aw_in_ok g_8) (if_pos (aw_in_lt g_8)) xd_N_skip_8 ?_
  refine aw_get C (k1 + 1 + 2 + 11 * (Int32.toNatClampNeg (σ k2 0))) (kd_lt (ka_I6 (kf_M_images hk1) (aw_in_lt g_8))) (ly_I (ka_I6 (kf_M_images hk1) (aw_in_lt g_8))) rfl (fun w h => List.mem_cons_of_mem _ (xi_I w h)) 0 (by decide) rfl (List.mem_cons_of_mem _ fl_N_42) xd_N_skip_9 ?_
  refine aw_get C ((k1 + 1 + 2 + 11 * (Int32.toNatClampNeg (σ k2 0))) + 1) (kd_lt (kf_I_unit (ka_I6 (kf_M_images hk1) (aw_in_lt g_8)))) (ly_U (kf_I_unit (ka_I6 (kf_M_images hk1) (aw_in_lt g_8)))) rfl (fun w h => List.mem_cons_of_mem _ (xi_U w h)) 5 (by decide) rfl (List.mem_cons_of_mem _ fl_N_48) xd_N_skip_12 ?_
  refine aw_astore_n (L' := [(3, .ref (ad (((k1 + 1 + 2 + 11 * (Int32.toNatClampNeg (σ k2 0))) + 1) + 3))), (0, .ref (ad k0)), (1, .ref (ad k1)), (2, .ref (ad k2))]) C xd_N_skip_15 rfl (by decide) rfl ?_
  refine aw_aload_n C 0 xd_N_skip_16 rfl rfl ?_
  refine aw_aload_n C 3 xd_N_skip_17 rfl rfl ?_
  refine aw_get C k2 (kd_lt hk2) (ly_F hk2) rfl (fun w h => List.mem_cons_of_mem _ (xi_F w h)) 1 (by decide) rfl (List.mem_cons_of_mem _ fl_N_57) xd_N_skip_18 ?_
  obtain ⟨q_21, e_21, hm⟩ := aw_bnd hm
  refine aw_callVi (As := [.int (σ k2 1)]) (rest := []) (b := ad (((k1 + 1 + 2 + 11 * (Int32.toNatClampNeg (σ k2 0))) + 1) + 3)) C (xc_C_lengthOf σ (((k1 + 1 + 2 + 11 * (Int32.toNatClampNeg (σ k2 0))) + 1) + 3) (σ k2 1) _ (kf_U_code (kf_I_unit (ka_I6 (kf_M_images hk1) (aw_in_lt g_8)))) e_21) rfl (gw_sub (gw_V xg_C_lengthOf ml_N_60 im_C_lengthOf se_C_lengthOf wi_C)) na_C_lengthOf (rm_lt (by decide) (by decide)) ⟨Nat.zero_le _, Nat.zero_le _⟩ (((k1 + 1 + 2 + 11 * (Int32.toNatClampNeg (σ k2 0))) + 1) + 3) (at_C (kf_U_code (kf_I_unit (ka_I6 (kf_M_images hk1) (aw_in_lt g_8))))) rfl rfl (Nat.le_of_ble_eq_true rfl) xd_N_skip_21 ?_
  refine aw_istore (L' := [(4, .int q_21), (3, .ref (ad (((k1 + 1 + 2 + 11 * (Int32.toNatClampNeg (σ k2 0))) + 1) + 3))), (0, .ref (ad k0)), (1, .ref (ad k1)), (2, .ref (ad k2))]) C xd_N_skip_24 (by decide) rfl ?_
  refine aw_iconst (v := (1 : Int32)) C xd_N_skip_26 (by decide) ?_
  refine aw_istore (L' := [(5, .int (1 : Int32)), (4, .int q_21), (3, .ref (ad (((k1 + 1 + 2 + 11 * (Int32.toNatClampNeg (σ k2 0))) + 1) + 3))), (0, .ref (ad k0)), (1, .ref (ad k1)), (2, .ref (ad k2))]) C xd_N_skip_27 (by decide) rfl ?_
  refine aw_loc (L' := [(0, .ref (ad k0)), (1, .ref (ad k1)), (2, .ref (ad k2)), (3, .ref (ad (((k1 + 1 + 2 + 11 * (Int32.toNatClampNeg (σ k2 0))) + 1) + 3))), (4, .int q_21), (5, .int (1 : Int32))]) C [3, 4, 5, 2, 1, 0] rfl ?_
  exact xl_N_skip_29 _ C 64 σ k0 k1 k2 (((k1 + 1 + 2 + 11 * (Int32.toNatClampNeg (σ k2 0))) + 1) + 3) q_21 (1 : Int32) hk0 hk1 hk2 (kf_U_code (kf_I_unit (ka_I6 (kf_M_images hk1) (aw_in_lt g_8)))) hm
def xm_N_assign (W : aw_m → Nat → Nat → Int32 → Int32 → Option (Int32 × aw_m)) (σ : aw_m) (k0 : Nat) (k1 : Nat) (a2 : Int32) (a3 : Int32) (a4 : Int32) : Option (Int32 × aw_m) := (W σ k0 k1 a2 (a3 + (1 : Int32))).bind fun q_6 => (if q_6.2 k0 2 = 0 then if aw_in a2 6 = true then (xm_M_setValue q_6.2 k1 (q_6.2 (k0 + 1 + 1 + (Int32.toNatClampNeg a2)) 0) a4 q_6.1).bind fun q_32 => some (q_6.1, q_32) else none else some (q_6.1, q_6.2))
set_option maxHeartbeats 4000000 in
set_option maxRecDepth 100000 in
theorem xc_N_assign (W : aw_m → Nat → Nat → Int32 → Int32 → Option (Int32 × aw_m)) (dw : Nat) (hW : ∀ (σ : aw_m) (k0 : Nat) (k1 : Nat) (a2 : Int32) (a3 : Int32) (q : Int32 × aw_m) (hk0 : kd_k k0 = 12) (hk1 : kd_k k1 = 8), W σ k0 k1 a2 a3 = some q → aw_M l D (ty_z ids) (zs_T ps) xy_N_work (xw_N_work :: gw_l) (rm_D (dw)) [.ref (ad k0), .ref (ad k1), .int a2, .int a3] (cw_w ad ids σ) (some (.int q.1)) (cw_w ad ids q.2)) (σ : aw_m) (k0 : Nat) (k1 : Nat) (a2 : Int32) (a3 : Int32) (a4 : Int32) (q : Int32 × aw_m) (hk0 : kd_k k0 = 12) (hk1 : kd_k k1 = 8) (hm : xm_N_assign W σ k0 k1 a2 a3 a4 = some q) : aw_M l D (ty_z ids) (zs_T ps) xy_N_assign (xw_N_assign :: gw_l) (rm_D (dw + 3)) [.ref (ad k0), .ref (ad k1), .int a2, .int a3, .int a4] (cw_w ad ids σ) (some (.int q.1)) (cw_w ad ids q.2) := by
  refine aw_intro (cc := xb_N_assign) (n := 6) (ret := (some .int)) "ModuleShelf$Machine" rfl (by decide) rfl (Nat.le_of_ble_eq_true rfl) ?_
  intro κ C
  unfold xm_N_assign at hm
  refine aw_aload_n C 0 xd_N_assign_0 rfl rfl ?_
  refine aw_aload_n C 1 xd_N_assign_1 rfl rfl ?_
  refine aw_iload_n C 2 xd_N_assign_2 rfl rfl ?_
  refine aw_iload_n C 3 xd_N_assign_3 rfl rfl ?_
  refine aw_iconst (v := (1 : Int32)) C xd_N_assign_4 (by decide) ?_
  refine aw_iadd C xd_N_assign_5 ?_
  obtain ⟨q_6, e_6, hm⟩ := aw_bnd hm
  refine aw_callVi (As := [.ref (ad k1), .int a2, .int (a3 + (1 : Int32))]) (rest := []) (b := ad k0) C (hW σ k0 k1 a2 (a3 + (1 : Int32)) _ hk0 hk1 e_6) rfl (gw_sub (gw_V xg_N_work ml_N_29 im_N_work se_N_work wi_N)) na_N_work (rm_lt (by omega) (by decide)) ⟨Nat.zero_le _, Nat.zero_le _⟩ k0 (at_N hk0) rfl rfl (Nat.le_of_ble_eq_true rfl) xd_N_assign_6 ?_
  refine aw_istore (L' := [(5, .int q_6.1), (0, .ref (ad k0)), (1, .ref (ad k1)), (2, .int a2), (3, .int a3), (4, .int a4)]) C xd_N_assign_9 (by decide) rfl ?_
  refine aw_aload_n C 1 xd_N_assign_11 rfl rfl ?_
  refine aw_get C k0 (kd_lt hk0) (ly_N hk0) rfl (fun w h => List.mem_cons_of_mem _ (xi_N w h)) 2 (by decide) rfl (List.mem_cons_of_mem _ fl_N_22) xd_N_assign_12 ?_
  refine aw_if_ne (tgt := 35) C xd_N_assign_15 (by decide) (fun c_15 => ?_) (fun c_15 => ?_)
  · rw [if_neg c_15] at hm
    refine aw_iload C 0 xd_N_assign_35 rfl ?_
    cases hm
    exact aw_iret C xd_N_assign_37
  · rw [if_pos c_15] at hm
    refine aw_aload_n C 2 xd_N_assign_18 rfl rfl ?_
    refine aw_aload_n C 1 xd_N_assign_19 rfl rfl ?_
    refine aw_get C k0 (kd_lt hk0) (ly_N hk0) rfl (fun w h => List.mem_cons_of_mem _ (xi_N w h)) 0 (by decide) rfl (List.mem_cons_of_mem _ fl_N_11) xd_N_assign_20 ?_
    refine aw_iload_n C 3 xd_N_assign_23 rfl rfl ?_
    obtain ⟨g_24, hm⟩ := aw_grd hm
    refine aw_aald C (k0 + 1) (kd_lt (kf_N_frames hk0)) 4 (ly_F6 (kf_N_frames hk0)) rfl (aw_in_ok g_24) (if_pos (aw_in_lt g_24)) xd_N_assign_24 ?_
    refine aw_get C (k0 + 1 + 1 + (Int32.toNatClampNeg a2)) (kd_lt (ka_F6 (kf_N_frames hk0) (aw_in_lt g_24))) (ly_F (ka_F6 (kf_N_frames hk0) (aw_in_lt g_24))) rfl (fun w h => List.mem_cons_of_mem _ (xi_F w h)) 0 (by decide) rfl (List.mem_cons_of_mem _ fl_N_39) xd_N_assign_25 ?_
    refine aw_iload C 5 xd_N_assign_28 rfl ?_
    refine aw_iload C 0 xd_N_assign_30 rfl ?_
    obtain ⟨q_32, e_32, hm⟩ := aw_bnd hm
    refine aw_callVv (As := [.int (q_6.2 (k0 + 1 + 1 + (Int32.toNatClampNeg a2)) 0), .int a4, .int q_6.1]) (rest := []) (b := ad k1) C (xc_M_setValue q_6.2 k1 (q_6.2 (k0 + 1 + 1 + (Int32.toNatClampNeg a2)) 0) a4 q_6.1 _ hk1 e_32) rfl (gw_sub (gw_V xg_M_setValue ml_N_106 im_M_setValue se_M_setValue wi_M)) na_M_setValue (rm_lt (by omega) (by decide)) ⟨Nat.zero_le _, Nat.zero_le _⟩ k1 (at_M hk1) rfl rfl (Nat.le_of_ble_eq_true rfl) xd_N_assign_32 ?_
    refine aw_iload C 0 xd_N_assign_35 rfl ?_
    cases hm
    exact aw_iret C xd_N_assign_37
def xm_N_choose (W : aw_m → Nat → Nat → Int32 → Int32 → Option (Int32 × aw_m)) (σ : aw_m) (k0 : Nat) (k1 : Nat) (a2 : Int32) (a3 : Int32) : Option (Int32 × aw_m) := (W σ k0 k1 a2 (a3 + (1 : Int32))).bind fun q_6 => (if q_6.1 = 0 then if aw_in a2 6 = true then (xm_N_skip q_6.2 k0 k1 (k0 + 1 + 1 + (Int32.toNatClampNeg a2))).bind fun q_24 => (W q_24 k0 k1 a2 (a3 + (1 : Int32))).bind fun q_33 => some (q_33.1, q_33.2) else none else (W q_6.2 k0 k1 a2 (a3 + (1 : Int32))).bind fun q_43 => if aw_in a2 6 = true then (xm_N_skip q_43.2 k0 k1 (k0 + 1 + 1 + (Int32.toNatClampNeg a2))).bind fun q_56 => some (q_43.1, q_56) else none)
set_option maxHeartbeats 4000000 in
set_option maxRecDepth 100000 in
theorem xc_N_choose (W : aw_m → Nat → Nat → Int32 → Int32 → Option (Int32 × aw_m)) (dw : Nat) (hW : ∀ (σ : aw_m) (k0 : Nat) (k1 : Nat) (a2 : Int32) (a3 : Int32) (q : Int32 × aw_m) (hk0 : kd_k k0 = 12) (hk1 : kd_k k1 = 8), W σ k0 k1 a2 a3 = some q → aw_M l D (ty_z ids) (zs_T ps) xy_N_work (xw_N_work :: gw_l) (rm_D (dw)) [.ref (ad k0), .ref (ad k1), .int a2, .int a3] (cw_w ad ids σ) (some (.int q.1)) (cw_w ad ids q.2)) (σ : aw_m) (k0 : Nat) (k1 : Nat) (a2 : Int32) (a3 : Int32) (q : Int32 × aw_m) (hk0 : kd_k k0 = 12) (hk1 : kd_k k1 = 8) (hm : xm_N_choose W σ k0 k1 a2 a3 = some q) : aw_M l D (ty_z ids) (zs_T ps) xy_N_choose (xw_N_choose :: gw_l) (rm_D (dw + 4)) [.ref (ad k0), .ref (ad k1), .int a2, .int a3] (cw_w ad ids σ) (some (.int q.1)) (cw_w ad ids q.2) := by
  refine aw_intro (cc := xb_N_choose) (n := 6) (ret := (some .int)) "ModuleShelf$Machine" rfl (by decide) rfl (Nat.le_of_ble_eq_true rfl) ?_
  intro κ C
  unfold xm_N_choose at hm
  refine aw_aload_n C 0 xd_N_choose_0 rfl rfl ?_
  refine aw_aload_n C 1 xd_N_choose_1 rfl rfl ?_
  refine aw_iload_n C 2 xd_N_choose_2 rfl rfl ?_
  refine aw_iload_n C 3 xd_N_choose_3 rfl rfl ?_
  refine aw_iconst (v := (1 : Int32)) C xd_N_choose_4 (by decide) ?_
  refine aw_iadd C xd_N_choose_5 ?_
  obtain ⟨q_6, e_6, hm⟩ := aw_bnd hm
  refine aw_callVi (As := [.ref (ad k1), .int a2, .int (a3 + (1 : Int32))]) (rest := []) (b := ad k0) C (hW σ k0 k1 a2 (a3 + (1 : Int32)) _ hk0 hk1 e_6) rfl (gw_sub (gw_V xg_N_work ml_N_29 im_N_work se_N_work wi_N)) na_N_work (rm_lt (by omega) (by decide)) ⟨Nat.zero_le _, Nat.zero_le _⟩ k0 (at_N hk0) rfl rfl (Nat.le_of_ble_eq_true rfl) xd_N_choose_6 ?_
  refine aw_istore (L' := [(4, .int q_6.1), (0, .ref (ad k0)), (1, .ref (ad k1)), (2, .int a2), (3, .int a3)]) C xd_N_choose_9 (by decide) rfl ?_
  refine aw_iload C 0 xd_N_choose_11 rfl ?_
  refine aw_if_ne (tgt := 37) C xd_N_choose_13 (by decide) (fun c_13 => ?_) (fun c_13 => ?_)
  · rw [if_neg c_13] at hm
    refine aw_aload_n C 1 xd_N_choose_37 rfl rfl ?_
    refine aw_aload_n C 2 xd_N_choose_38 rfl rfl ?_
    refine aw_iload_n C 3 xd_N_choose_39 rfl rfl ?_
    refine aw_iload_n C 4 xd_N_choose_40 rfl rfl ?_
    refine aw_iconst (v := (1 : Int32)) C xd_N_choose_41 (by decide) ?_
    refine aw_iadd C xd_N_choose_42 ?_
    obtain ⟨q_43, e_43, hm⟩ := aw_bnd hm
    refine aw_callVi (As := [.ref (ad k1), .int a2, .int (a3 + (1 : Int32))]) (rest := []) (b := ad k0) C (hW q_6.2 k0 k1 a2 (a3 + (1 : Int32)) _ hk0 hk1 e_43) rfl (gw_sub (gw_V xg_N_work ml_N_29 im_N_work se_N_work wi_N)) na_N_work (rm_lt (by omega) (by decide)) ⟨Nat.zero_le _, Nat.zero_le _⟩ k0 (at_N hk0) rfl rfl (Nat.le_of_ble_eq_true rfl) xd_N_choose_43 ?_
    refine aw_istore (L' := [(5, .int q_43.1), (4, .int q_6.1), (0, .ref (ad k0)), (1, .ref (ad k1)), (2, .int a2), (3, .int a3)]) C xd_N_choose_46 (by decide) rfl ?_
    refine aw_aload_n C 2 xd_N_choose_48 rfl rfl ?_
    refine aw_aload_n C 3 xd_N_choose_49 rfl rfl ?_
    refine aw_aload_n C 2 xd_N_choose_50 rfl rfl ?_
    refine aw_get C k0 (kd_lt hk0) (ly_N hk0) rfl (fun w h => List.mem_cons_of_mem _ (xi_N w h)) 0 (by decide) rfl (List.mem_cons_of_mem _ fl_N_11) xd_N_choose_51 ?_
    refine aw_iload_n C 4 xd_N_choose_54 rfl rfl ?_
    obtain ⟨g_55, hm⟩ := aw_grd hm
    refine aw_aald C (k0 + 1) (kd_lt (kf_N_frames hk0)) 4 (ly_F6 (kf_N_frames hk0)) rfl (aw_in_ok g_55) (if_pos (aw_in_lt g_55)) xd_N_choose_55 ?_
    obtain ⟨q_56, e_56, hm⟩ := aw_bnd hm
    refine aw_callVv (As := [.ref (ad k1), .ref (ad (k0 + 1 + 1 + (Int32.toNatClampNeg a2)))]) (rest := []) (b := ad k0) C (xc_N_skip q_43.2 k0 k1 (k0 + 1 + 1 + (Int32.toNatClampNeg a2)) _ hk0 hk1 (ka_F6 (kf_N_frames hk0) (aw_in_lt g_55)) e_56) rfl (gw_sub (gw_V xg_N_skip ml_N_110 im_N_skip se_N_skip wi_N)) na_N_skip (rm_lt (by omega) (by decide)) ⟨Nat.zero_le _, Nat.zero_le _⟩ k0 (at_N hk0) rfl rfl (Nat.le_of_ble_eq_true rfl) xd_N_choose_56 ?_
    refine aw_iload C 0 xd_N_choose_59 rfl ?_
    cases hm
    exact aw_iret C xd_N_choose_61
  · rw [if_pos c_13] at hm
    refine aw_aload_n C 1 xd_N_choose_16 rfl rfl ?_
    refine aw_aload_n C 2 xd_N_choose_17 rfl rfl ?_
    refine aw_aload_n C 1 xd_N_choose_18 rfl rfl ?_
    refine aw_get C k0 (kd_lt hk0) (ly_N hk0) rfl (fun w h => List.mem_cons_of_mem _ (xi_N w h)) 0 (by decide) rfl (List.mem_cons_of_mem _ fl_N_11) xd_N_choose_19 ?_
    refine aw_iload_n C 3 xd_N_choose_22 rfl rfl ?_
    obtain ⟨g_23, hm⟩ := aw_grd hm
    refine aw_aald C (k0 + 1) (kd_lt (kf_N_frames hk0)) 4 (ly_F6 (kf_N_frames hk0)) rfl (aw_in_ok g_23) (if_pos (aw_in_lt g_23)) xd_N_choose_23 ?_
    obtain ⟨q_24, e_24, hm⟩ := aw_bnd hm
    refine aw_callVv (As := [.ref (ad k1), .ref (ad (k0 + 1 + 1 + (Int32.toNatClampNeg a2)))]) (rest := []) (b := ad k0) C (xc_N_skip q_6.2 k0 k1 (k0 + 1 + 1 + (Int32.toNatClampNeg a2)) _ hk0 hk1 (ka_F6 (kf_N_frames hk0) (aw_in_lt g_23)) e_24) rfl (gw_sub (gw_V xg_N_skip ml_N_110 im_N_skip se_N_skip wi_N)) na_N_skip (rm_lt (by omega) (by decide)) ⟨Nat.zero_le _, Nat.zero_le _⟩ k0 (at_N hk0) rfl rfl (Nat.le_of_ble_eq_true rfl) xd_N_choose_24 ?_
    refine aw_aload_n C 1 xd_N_choose_27 rfl rfl ?_
    refine aw_aload_n C 2 xd_N_choose_28 rfl rfl ?_
    refine aw_iload_n C 3 xd_N_choose_29 rfl rfl ?_
    refine aw_iload_n C 4 xd_N_choose_30 rfl rfl ?_
    refine aw_iconst (v := (1 : Int32)) C xd_N_choose_31 (by decide) ?_
    refine aw_iadd C xd_N_choose_32 ?_
    obtain ⟨q_33, e_33, hm⟩ := aw_bnd hm
    refine aw_callVi (As := [.ref (ad k1), .int a2, .int (a3 + (1 : Int32))]) (rest := []) (b := ad k0) C (hW q_24 k0 k1 a2 (a3 + (1 : Int32)) _ hk0 hk1 e_33) rfl (gw_sub (gw_V xg_N_work ml_N_29 im_N_work se_N_work wi_N)) na_N_work (rm_lt (by omega) (by decide)) ⟨Nat.zero_le _, Nat.zero_le _⟩ k0 (at_N hk0) rfl rfl (Nat.le_of_ble_eq_true rfl) xd_N_choose_33 ?_
    cases hm
    exact aw_iret C xd_N_choose_36
def xm_N_enter (W : aw_m → Nat → Nat → Int32 → Int32 → Option (Int32 × aw_m)) (σ : aw_m) (k0 : Nat) (k1 : Nat) (a2 : Int32) (a3 : Int32) (a4 : Int32) (a5 : Int32) : Option (Int32 × aw_m) := (xm_M_argumentsOf σ k1 a4 a5).bind fun q_5 => (if q_5 ≤ 0 then (if q_5 ≤ (1 : Int32) then (if σ k0 2 = 0 then (if q_5 = (-1 : Int32) then some ((0 : Int32), σ) else (if a2 < (5 : Int32) then if aw_in (a2 + (1 : Int32)) 6 = true then (xm_F_open σ (k0 + 1 + 1 + (Int32.toNatClampNeg (a2 + (1 : Int32)))) a4 a5 (0 : Int32) (0 : Int32)).bind fun q_94 => (W q_94 k0 k1 (a2 + (1 : Int32)) (0 : Int32)).bind fun q_103 => some (q_103.1, q_103.2) else none else (xm_N_fail σ k0 (-9 : Int32)).bind fun q_74 => some (q_74.1, q_74.2))) else some ((0 : Int32), σ)) else (W σ k0 k1 a2 (a3 + (1 : Int32))).bind fun q_42 => (if q_42.2 k0 2 = 0 then (if q_5 = (-1 : Int32) then some ((0 : Int32), q_42.2) else (if a2 < (5 : Int32) then if aw_in (a2 + (1 : Int32)) 6 = true then (xm_F_open q_42.2 (k0 + 1 + 1 + (Int32.toNatClampNeg (a2 + (1 : Int32)))) a4 a5 (0 : Int32) q_42.1).bind fun q_94 => (W q_94 k0 k1 (a2 + (1 : Int32)) (0 : Int32)).bind fun q_103 => some (q_103.1, q_103.2) else none else (xm_N_fail q_42.2 k0 (-9 : Int32)).bind fun q_74 => some (q_74.1, q_74.2))) else some ((0 : Int32), q_42.2))) else (W σ k0 k1 a2 (a3 + (1 : Int32))).bind fun q_21 => (if q_5 ≤ (1 : Int32) then (if q_21.2 k0 2 = 0 then (if q_5 = (-1 : Int32) then some ((0 : Int32), q_21.2) else (if a2 < (5 : Int32) then if aw_in (a2 + (1 : Int32)) 6 = true then (xm_F_open q_21.2 (k0 + 1 + 1 + (Int32.toNatClampNeg (a2 + (1 : Int32)))) a4 a5 q_21.1 (0 : Int32)).bind fun q_94 => (W q_94 k0 k1 (a2 + (1 : Int32)) (0 : Int32)).bind fun q_103 => some (q_103.1, q_103.2) else none else (xm_N_fail q_21.2 k0 (-9 : Int32)).bind fun q_74 => some (q_74.1, q_74.2))) else some ((0 : Int32), q_21.2)) else (W q_21.2 k0 k1 a2 (a3 + (1 : Int32))).bind fun q_42 => (if q_42.2 k0 2 = 0 then (if q_5 = (-1 : Int32) then some ((0 : Int32), q_42.2) else (if a2 < (5 : Int32) then if aw_in (a2 + (1 : Int32)) 6 = true then (xm_F_open q_42.2 (k0 + 1 + 1 + (Int32.toNatClampNeg (a2 + (1 : Int32)))) a4 a5 q_21.1 q_42.1).bind fun q_94 => (W q_94 k0 k1 (a2 + (1 : Int32)) (0 : Int32)).bind fun q_103 => some (q_103.1, q_103.2) else none else (xm_N_fail q_42.2 k0 (-9 : Int32)).bind fun q_74 => some (q_74.1, q_74.2))) else some ((0 : Int32), q_42.2))))
set_option maxHeartbeats 4000000 in
set_option maxRecDepth 100000 in
theorem xc_N_enter (W : aw_m → Nat → Nat → Int32 → Int32 → Option (Int32 × aw_m)) (dw : Nat) (hW : ∀ (σ : aw_m) (k0 : Nat) (k1 : Nat) (a2 : Int32) (a3 : Int32) (q : Int32 × aw_m) (hk0 : kd_k k0 = 12) (hk1 : kd_k k1 = 8), W σ k0 k1 a2 a3 = some q → aw_M l D (ty_z ids) (zs_T ps) xy_N_work (xw_N_work :: gw_l) (rm_D (dw)) [.ref (ad k0), .ref (ad k1), .int a2, .int a3] (cw_w ad ids σ) (some (.int q.1)) (cw_w ad ids q.2)) (σ : aw_m) (k0 : Nat) (k1 : Nat) (a2 : Int32) (a3 : Int32) (a4 : Int32) (a5 : Int32) (q : Int32 × aw_m) (hk0 : kd_k k0 = 12) (hk1 : kd_k k1 = 8) (hm : xm_N_enter W σ k0 k1 a2 a3 a4 a5 = some q) : aw_M l D (ty_z ids) (zs_T ps) xy_N_enter (xw_N_enter :: gw_l) (rm_D (dw + 3)) [.ref (ad k0), .ref (ad k1), .int a2, .int a3, .int a4, .int a5] (cw_w ad ids σ) (some (.int q.1)) (cw_w ad ids q.2) := by
  refine aw_intro (cc := xb_N_enter) (n := 9) (ret := (some .int)) "ModuleShelf$Machine" rfl (by decide) rfl (Nat.le_of_ble_eq_true rfl) ?_
  intro κ C
  unfold xm_N_enter at hm
  refine aw_aload_n C 1 xd_N_enter_0 rfl rfl ?_
  refine aw_iload C 4 xd_N_enter_1 rfl ?_
  refine aw_iload C 5 xd_N_enter_3 rfl ?_
  obtain ⟨q_5, e_5, hm⟩ := aw_bnd hm
  refine aw_callVi (As := [.int a4, .int a5]) (rest := []) (b := ad k1) C (xc_M_argumentsOf σ k1 a4 a5 _ hk1 e_5) rfl (gw_sub (gw_V xg_M_argumentsOf ml_N_114 im_M_argumentsOf se_M_argumentsOf wi_M)) na_M_argumentsOf (rm_lt (by omega) (by decide)) ⟨Nat.zero_le _, Nat.zero_le _⟩ k1 (at_M hk1) rfl rfl (Nat.le_of_ble_eq_true rfl) xd_N_enter_5 ?_
  refine aw_istore (L' := [(6, .int q_5), (0, .ref (ad k0)), (1, .ref (ad k1)), (2, .int a2), (3, .int a3), (4, .int a4), (5, .int a5)]) C xd_N_enter_8 (by decide) rfl ?_
  refine aw_iload C 0 xd_N_enter_10 rfl ?_
  refine aw_if_le (tgt := 27) C xd_N_enter_12 (by decide) (fun c_12 => ?_) (fun c_12 => ?_)
  · rw [if_pos c_12] at hm
    refine aw_iconst (v := (0 : Int32)) C xd_N_enter_27 (by decide) ?_
    refine aw_istore (L' := [(7, .int (0 : Int32)), (6, .int q_5), (0, .ref (ad k0)), (1, .ref (ad k1)), (2, .int a2), (3, .int a3), (4, .int a4), (5, .int a5)]) C xd_N_enter_28 (by decide) rfl ?_
    refine aw_iload C 1 xd_N_enter_30 rfl ?_
    refine aw_iconst (v := (1 : Int32)) C xd_N_enter_32 (by decide) ?_
    refine aw_icmp_le (tgt := 48) C xd_N_enter_33 (by decide) (fun c_33 => ?_) (fun c_33 => ?_)
    · rw [if_pos c_33] at hm
      refine aw_iconst (v := (0 : Int32)) C xd_N_enter_48 (by decide) ?_
      refine aw_istore (L' := [(8, .int (0 : Int32)), (7, .int (0 : Int32)), (6, .int q_5), (0, .ref (ad k0)), (1, .ref (ad k1)), (2, .int a2), (3, .int a3), (4, .int a4), (5, .int a5)]) C xd_N_enter_49 (by decide) rfl ?_
      refine aw_aload_n C 3 xd_N_enter_51 rfl rfl ?_
      refine aw_get C k0 (kd_lt hk0) (ly_N hk0) rfl (fun w h => List.mem_cons_of_mem _ (xi_N w h)) 2 (by decide) rfl (List.mem_cons_of_mem _ fl_N_22) xd_N_enter_52 ?_
      refine aw_if_ne (tgt := 64) C xd_N_enter_55 (by decide) (fun c_55 => ?_) (fun c_55 => ?_)
      · rw [if_neg c_55] at hm
        refine aw_iconst (v := (0 : Int32)) C xd_N_enter_64 (by decide) ?_
        cases hm
        exact aw_iret C xd_N_enter_65
      · rw [if_pos c_55] at hm
        refine aw_iload C 2 xd_N_enter_58 rfl ?_
        refine aw_iconst (v := (-1 : Int32)) C xd_N_enter_60 (by decide) ?_
        refine aw_icmp_ne (tgt := 66) C xd_N_enter_61 (by decide) (fun c_61 => ?_) (fun c_61 => ?_)
        · rw [if_neg c_61] at hm
          refine aw_iload_n C 5 xd_N_enter_66 rfl rfl ?_
          refine aw_iconst (v := (5 : Int32)) C xd_N_enter_67 (by decide) ?_
          refine aw_icmp_lt (tgt := 78) C xd_N_enter_68 (by decide) (fun c_68 => ?_) (fun c_68 => ?_)
          · rw [if_pos c_68] at hm
            refine aw_aload_n C 3 xd_N_enter_78 rfl rfl ?_
            refine aw_get C k0 (kd_lt hk0) (ly_N hk0) rfl (fun w h => List.mem_cons_of_mem _ (xi_N w h)) 0 (by decide) rfl (List.mem_cons_of_mem _ fl_N_11) xd_N_enter_79 ?_
            refine aw_iload_n C 5 xd_N_enter_82 rfl rfl ?_
            refine aw_iconst (v := (1 : Int32)) C xd_N_enter_83 (by decide) ?_
            refine aw_iadd C xd_N_enter_84 ?_
            obtain ⟨g_85, hm⟩ := aw_grd hm
            refine aw_aald C (k0 + 1) (kd_lt (kf_N_frames hk0)) 4 (ly_F6 (kf_N_frames hk0)) rfl (aw_in_ok g_85) (if_pos (aw_in_lt g_85)) xd_N_enter_85 ?_
            refine aw_iload C 7 xd_N_enter_86 rfl ?_
            refine aw_iload C 8 xd_N_enter_88 rfl ?_
            refine aw_iload C 1 xd_N_enter_90 rfl ?_
            refine aw_iload C 0 xd_N_enter_92 rfl ?_
            obtain ⟨q_94, e_94, hm⟩ := aw_bnd hm
            refine aw_callVv (As := [.int a4, .int a5, .int (0 : Int32), .int (0 : Int32)]) (rest := []) (b := ad (k0 + 1 + 1 + (Int32.toNatClampNeg (a2 + (1 : Int32))))) C (xc_F_open σ (k0 + 1 + 1 + (Int32.toNatClampNeg (a2 + (1 : Int32)))) a4 a5 (0 : Int32) (0 : Int32) _ (ka_F6 (kf_N_frames hk0) (aw_in_lt g_85)) e_94) rfl (gw_sub (gw_V xg_F_open ml_N_25 im_F_open se_F_open wi_F)) na_F_open (rm_lt (by omega) (by decide)) ⟨Nat.zero_le _, Nat.zero_le _⟩ (k0 + 1 + 1 + (Int32.toNatClampNeg (a2 + (1 : Int32)))) (at_F (ka_F6 (kf_N_frames hk0) (aw_in_lt g_85))) rfl rfl (Nat.le_of_ble_eq_true rfl) xd_N_enter_94 ?_
            refine aw_aload_n C 3 xd_N_enter_97 rfl rfl ?_
            refine aw_aload_n C 4 xd_N_enter_98 rfl rfl ?_
            refine aw_iload_n C 5 xd_N_enter_99 rfl rfl ?_
            refine aw_iconst (v := (1 : Int32)) C xd_N_enter_100 (by decide) ?_
            refine aw_iadd C xd_N_enter_101 ?_
            refine aw_iconst (v := (0 : Int32)) C xd_N_enter_102 (by decide) ?_
            obtain ⟨q_103, e_103, hm⟩ := aw_bnd hm
            refine aw_callVi (As := [.ref (ad k1), .int (a2 + (1 : Int32)), .int (0 : Int32)]) (rest := []) (b := ad k0) C (hW q_94 k0 k1 (a2 + (1 : Int32)) (0 : Int32) _ hk0 hk1 e_103) rfl (gw_sub (gw_V xg_N_work ml_N_29 im_N_work se_N_work wi_N)) na_N_work (rm_lt (by omega) (by decide)) ⟨Nat.zero_le _, Nat.zero_le _⟩ k0 (at_N hk0) rfl rfl (Nat.le_of_ble_eq_true rfl) xd_N_enter_103 ?_
            cases hm
            exact aw_iret C xd_N_enter_106
          · rw [if_neg c_68] at hm
            refine aw_aload_n C 3 xd_N_enter_71 rfl rfl ?_
            refine aw_bipush (v := (-9 : Int32)) C xd_N_enter_72 (by decide) ?_
            obtain ⟨q_74, e_74, hm⟩ := aw_bnd hm
            refine aw_callVi (As := [.int (-9 : Int32)]) (rest := []) (b := ad k0) C (xc_N_fail σ k0 (-9 : Int32) _ hk0 e_74) rfl (gw_sub (gw_V xg_N_fail ml_N_66 im_N_fail se_N_fail wi_N)) na_N_fail (rm_lt (by omega) (by decide)) ⟨Nat.zero_le _, Nat.zero_le _⟩ k0 (at_N hk0) rfl rfl (Nat.le_of_ble_eq_true rfl) xd_N_enter_74 ?_
            cases hm
            exact aw_iret C xd_N_enter_77
        · rw [if_pos c_61] at hm
          refine aw_iconst (v := (0 : Int32)) C xd_N_enter_64 (by decide) ?_
          cases hm
          exact aw_iret C xd_N_enter_65
    · rw [if_neg c_33] at hm
      refine aw_aload_n C 2 xd_N_enter_36 rfl rfl ?_
      refine aw_aload_n C 3 xd_N_enter_37 rfl rfl ?_
      refine aw_iload_n C 4 xd_N_enter_38 rfl rfl ?_
      refine aw_iload_n C 5 xd_N_enter_39 rfl rfl ?_
      refine aw_iconst (v := (1 : Int32)) C xd_N_enter_40 (by decide) ?_
      refine aw_iadd C xd_N_enter_41 ?_
      obtain ⟨q_42, e_42, hm⟩ := aw_bnd hm
      refine aw_callVi (As := [.ref (ad k1), .int a2, .int (a3 + (1 : Int32))]) (rest := []) (b := ad k0) C (hW σ k0 k1 a2 (a3 + (1 : Int32)) _ hk0 hk1 e_42) rfl (gw_sub (gw_V xg_N_work ml_N_29 im_N_work se_N_work wi_N)) na_N_work (rm_lt (by omega) (by decide)) ⟨Nat.zero_le _, Nat.zero_le _⟩ k0 (at_N hk0) rfl rfl (Nat.le_of_ble_eq_true rfl) xd_N_enter_42 ?_
      refine aw_goto (tgt := 49) C xd_N_enter_45 (by decide) ?_
      refine aw_istore (L' := [(8, .int q_42.1), (7, .int (0 : Int32)), (6, .int q_5), (0, .ref (ad k0)), (1, .ref (ad k1)), (2, .int a2), (3, .int a3), (4, .int a4), (5, .int a5)]) C xd_N_enter_49 (by decide) rfl ?_
      refine aw_aload_n C 3 xd_N_enter_51 rfl rfl ?_
      refine aw_get C k0 (kd_lt hk0) (ly_N hk0) rfl (fun w h => List.mem_cons_of_mem _ (xi_N w h)) 2 (by decide) rfl (List.mem_cons_of_mem _ fl_N_22) xd_N_enter_52 ?_
      refine aw_if_ne (tgt := 64) C xd_N_enter_55 (by decide) (fun c_55 => ?_) (fun c_55 => ?_)
      · rw [if_neg c_55] at hm
        refine aw_iconst (v := (0 : Int32)) C xd_N_enter_64 (by decide) ?_
        cases hm
        exact aw_iret C xd_N_enter_65
      · rw [if_pos c_55] at hm
        refine aw_iload C 2 xd_N_enter_58 rfl ?_
        refine aw_iconst (v := (-1 : Int32)) C xd_N_enter_60 (by decide) ?_
        refine aw_icmp_ne (tgt := 66) C xd_N_enter_61 (by decide) (fun c_61 => ?_) (fun c_61 => ?_)
        · rw [if_neg c_61] at hm
          refine aw_iload_n C 5 xd_N_enter_66 rfl rfl ?_
          refine aw_iconst (v := (5 : Int32)) C xd_N_enter_67 (by decide) ?_
          refine aw_icmp_lt (tgt := 78) C xd_N_enter_68 (by decide) (fun c_68 => ?_) (fun c_68 => ?_)
          · rw [if_pos c_68] at hm
            refine aw_aload_n C 3 xd_N_enter_78 rfl rfl ?_
            refine aw_get C k0 (kd_lt hk0) (ly_N hk0) rfl (fun w h => List.mem_cons_of_mem _ (xi_N w h)) 0 (by decide) rfl (List.mem_cons_of_mem _ fl_N_11) xd_N_enter_79 ?_
            refine aw_iload_n C 5 xd_N_enter_82 rfl rfl ?_
            refine aw_iconst (v := (1 : Int32)) C xd_N_enter_83 (by decide) ?_
            refine aw_iadd C xd_N_enter_84 ?_
            obtain ⟨g_85, hm⟩ := aw_grd hm
            refine aw_aald C (k0 + 1) (kd_lt (kf_N_frames hk0)) 4 (ly_F6 (kf_N_frames hk0)) rfl (aw_in_ok g_85) (if_pos (aw_in_lt g_85)) xd_N_enter_85 ?_
            refine aw_iload C 7 xd_N_enter_86 rfl ?_
            refine aw_iload C 8 xd_N_enter_88 rfl ?_
            refine aw_iload C 1 xd_N_enter_90 rfl ?_
            refine aw_iload C 0 xd_N_enter_92 rfl ?_
            obtain ⟨q_94, e_94, hm⟩ := aw_bnd hm
            refine aw_callVv (As := [.int a4, .int a5, .int (0 : Int32), .int q_42.1]) (rest := []) (b := ad (k0 + 1 + 1 + (Int32.toNatClampNeg (a2 + (1 : Int32))))) C (xc_F_open q_42.2 (k0 + 1 + 1 + (Int32.toNatClampNeg (a2 + (1 : Int32)))) a4 a5 (0 : Int32) q_42.1 _ (ka_F6 (kf_N_frames hk0) (aw_in_lt g_85)) e_94) rfl (gw_sub (gw_V xg_F_open ml_N_25 im_F_open se_F_open wi_F)) na_F_open (rm_lt (by omega) (by decide)) ⟨Nat.zero_le _, Nat.zero_le _⟩ (k0 + 1 + 1 + (Int32.toNatClampNeg (a2 + (1 : Int32)))) (at_F (ka_F6 (kf_N_frames hk0) (aw_in_lt g_85))) rfl rfl (Nat.le_of_ble_eq_true rfl) xd_N_enter_94 ?_
            refine aw_aload_n C 3 xd_N_enter_97 rfl rfl ?_
            refine aw_aload_n C 4 xd_N_enter_98 rfl rfl ?_
            refine aw_iload_n C 5 xd_N_enter_99 rfl rfl ?_
            refine aw_iconst (v := (1 : Int32)) C xd_N_enter_100 (by decide) ?_
            refine aw_iadd C xd_N_enter_101 ?_
            refine aw_iconst (v := (0 : Int32)) C xd_N_enter_102 (by decide) ?_
            obtain ⟨q_103, e_103, hm⟩ := aw_bnd hm
            refine aw_callVi (As := [.ref (ad k1), .int (a2 + (1 : Int32)), .int (0 : Int32)]) (rest := []) (b := ad k0) C (hW q_94 k0 k1 (a2 + (1 : Int32)) (0 : Int32) _ hk0 hk1 e_103) rfl (gw_sub (gw_V xg_N_work ml_N_29 im_N_work se_N_work wi_N)) na_N_work (rm_lt (by omega) (by decide)) ⟨Nat.zero_le _, Nat.zero_le _⟩ k0 (at_N hk0) rfl rfl (Nat.le_of_ble_eq_true rfl) xd_N_enter_103 ?_
            cases hm
            exact aw_iret C xd_N_enter_106
          · rw [if_neg c_68] at hm
            refine aw_aload_n C 3 xd_N_enter_71 rfl rfl ?_
            refine aw_bipush (v := (-9 : Int32)) C xd_N_enter_72 (by decide) ?_
            obtain ⟨q_74, e_74, hm⟩ := aw_bnd hm
            refine aw_callVi (As := [.int (-9 : Int32)]) (rest := []) (b := ad k0) C (xc_N_fail q_42.2 k0 (-9 : Int32) _ hk0 e_74) rfl (gw_sub (gw_V xg_N_fail ml_N_66 im_N_fail se_N_fail wi_N)) na_N_fail (rm_lt (by omega) (by decide)) ⟨Nat.zero_le _, Nat.zero_le _⟩ k0 (at_N hk0) rfl rfl (Nat.le_of_ble_eq_true rfl) xd_N_enter_74 ?_
            cases hm
            exact aw_iret C xd_N_enter_77
        · rw [if_pos c_61] at hm
          refine aw_iconst (v := (0 : Int32)) C xd_N_enter_64 (by decide) ?_
          cases hm
          exact aw_iret C xd_N_enter_65
  · rw [if_neg c_12] at hm
    refine aw_aload_n C 1 xd_N_enter_15 rfl rfl ?_
    refine aw_aload_n C 2 xd_N_enter_16 rfl rfl ?_
    refine aw_iload_n C 3 xd_N_enter_17 rfl rfl ?_
    refine aw_iload_n C 4 xd_N_enter_18 rfl rfl ?_
    refine aw_iconst (v := (1 : Int32)) C xd_N_enter_19 (by decide) ?_
    refine aw_iadd C xd_N_enter_20 ?_
    obtain ⟨q_21, e_21, hm⟩ := aw_bnd hm
    refine aw_callVi (As := [.ref (ad k1), .int a2, .int (a3 + (1 : Int32))]) (rest := []) (b := ad k0) C (hW σ k0 k1 a2 (a3 + (1 : Int32)) _ hk0 hk1 e_21) rfl (gw_sub (gw_V xg_N_work ml_N_29 im_N_work se_N_work wi_N)) na_N_work (rm_lt (by omega) (by decide)) ⟨Nat.zero_le _, Nat.zero_le _⟩ k0 (at_N hk0) rfl rfl (Nat.le_of_ble_eq_true rfl) xd_N_enter_21 ?_
    refine aw_goto (tgt := 28) C xd_N_enter_24 (by decide) ?_
    refine aw_istore (L' := [(7, .int q_21.1), (6, .int q_5), (0, .ref (ad k0)), (1, .ref (ad k1)), (2, .int a2), (3, .int a3), (4, .int a4), (5, .int a5)]) C xd_N_enter_28 (by decide) rfl ?_
    refine aw_iload C 1 xd_N_enter_30 rfl ?_
    refine aw_iconst (v := (1 : Int32)) C xd_N_enter_32 (by decide) ?_
    refine aw_icmp_le (tgt := 48) C xd_N_enter_33 (by decide) (fun c_33 => ?_) (fun c_33 => ?_)
    · rw [if_pos c_33] at hm
      refine aw_iconst (v := (0 : Int32)) C xd_N_enter_48 (by decide) ?_
      refine aw_istore (L' := [(8, .int (0 : Int32)), (7, .int q_21.1), (6, .int q_5), (0, .ref (ad k0)), (1, .ref (ad k1)), (2, .int a2), (3, .int a3), (4, .int a4), (5, .int a5)]) C xd_N_enter_49 (by decide) rfl ?_
      refine aw_aload_n C 3 xd_N_enter_51 rfl rfl ?_
      refine aw_get C k0 (kd_lt hk0) (ly_N hk0) rfl (fun w h => List.mem_cons_of_mem _ (xi_N w h)) 2 (by decide) rfl (List.mem_cons_of_mem _ fl_N_22) xd_N_enter_52 ?_
      refine aw_if_ne (tgt := 64) C xd_N_enter_55 (by decide) (fun c_55 => ?_) (fun c_55 => ?_)
      · rw [if_neg c_55] at hm
        refine aw_iconst (v := (0 : Int32)) C xd_N_enter_64 (by decide) ?_
        cases hm
        exact aw_iret C xd_N_enter_65
      · rw [if_pos c_55] at hm
        refine aw_iload C 2 xd_N_enter_58 rfl ?_
        refine aw_iconst (v := (-1 : Int32)) C xd_N_enter_60 (by decide) ?_
        refine aw_icmp_ne (tgt := 66) C xd_N_enter_61 (by decide) (fun c_61 => ?_) (fun c_61 => ?_)
        · rw [if_neg c_61] at hm
          refine aw_iload_n C 5 xd_N_enter_66 rfl rfl ?_
          refine aw_iconst (v := (5 : Int32)) C xd_N_enter_67 (by decide) ?_
          refine aw_icmp_lt (tgt := 78) C xd_N_enter_68 (by decide) (fun c_68 => ?_) (fun c_68 => ?_)
          · rw [if_pos c_68] at hm
            refine aw_aload_n C 3 xd_N_enter_78 rfl rfl ?_
            refine aw_get C k0 (kd_lt hk0) (ly_N hk0) rfl (fun w h => List.mem_cons_of_mem _ (xi_N w h)) 0 (by decide) rfl (List.mem_cons_of_mem _ fl_N_11) xd_N_enter_79 ?_
            refine aw_iload_n C 5 xd_N_enter_82 rfl rfl ?_
            refine aw_iconst (v := (1 : Int32)) C xd_N_enter_83 (by decide) ?_
            refine aw_iadd C xd_N_enter_84 ?_
            obtain ⟨g_85, hm⟩ := aw_grd hm
            refine aw_aald C (k0 + 1) (kd_lt (kf_N_frames hk0)) 4 (ly_F6 (kf_N_frames hk0)) rfl (aw_in_ok g_85) (if_pos (aw_in_lt g_85)) xd_N_enter_85 ?_
            refine aw_iload C 7 xd_N_enter_86 rfl ?_
            refine aw_iload C 8 xd_N_enter_88 rfl ?_
            refine aw_iload C 1 xd_N_enter_90 rfl ?_
            refine aw_iload C 0 xd_N_enter_92 rfl ?_
            obtain ⟨q_94, e_94, hm⟩ := aw_bnd hm
            refine aw_callVv (As := [.int a4, .int a5, .int q_21.1, .int (0 : Int32)]) (rest := []) (b := ad (k0 + 1 + 1 + (Int32.toNatClampNeg (a2 + (1 : Int32))))) C (xc_F_open q_21.2 (k0 + 1 + 1 + (Int32.toNatClampNeg (a2 + (1 : Int32)))) a4 a5 q_21.1 (0 : Int32) _ (ka_F6 (kf_N_frames hk0) (aw_in_lt g_85)) e_94) rfl (gw_sub (gw_V xg_F_open ml_N_25 im_F_open se_F_open wi_F)) na_F_open (rm_lt (by omega) (by decide)) ⟨Nat.zero_le _, Nat.zero_le _⟩ (k0 + 1 + 1 + (Int32.toNatClampNeg (a2 + (1 : Int32)))) (at_F (ka_F6 (kf_N_frames hk0) (aw_in_lt g_85))) rfl rfl (Nat.le_of_ble_eq_true rfl) xd_N_enter_94 ?_
            refine aw_aload_n C 3 xd_N_enter_97 rfl rfl ?_
            refine aw_aload_n C 4 xd_N_enter_98 rfl rfl ?_
            refine aw_iload_n C 5 xd_N_enter_99 rfl rfl ?_
            refine aw_iconst (v := (1 : Int32)) C xd_N_enter_100 (by decide) ?_
            refine aw_iadd C xd_N_enter_101 ?_
            refine aw_iconst (v := (0 : Int32)) C xd_N_enter_102 (by decide) ?_
            obtain ⟨q_103, e_103, hm⟩ := aw_bnd hm
            refine aw_callVi (As := [.ref (ad k1), .int (a2 + (1 : Int32)), .int (0 : Int32)]) (rest := []) (b := ad k0) C (hW q_94 k0 k1 (a2 + (1 : Int32)) (0 : Int32) _ hk0 hk1 e_103) rfl (gw_sub (gw_V xg_N_work ml_N_29 im_N_work se_N_work wi_N)) na_N_work (rm_lt (by omega) (by decide)) ⟨Nat.zero_le _, Nat.zero_le _⟩ k0 (at_N hk0) rfl rfl (Nat.le_of_ble_eq_true rfl) xd_N_enter_103 ?_
            cases hm
            exact aw_iret C xd_N_enter_106
          · rw [if_neg c_68] at hm
            refine aw_aload_n C 3 xd_N_enter_71 rfl rfl ?_
            refine aw_bipush (v := (-9 : Int32)) C xd_N_enter_72 (by decide) ?_
            obtain ⟨q_74, e_74, hm⟩ := aw_bnd hm
            refine aw_callVi (As := [.int (-9 : Int32)]) (rest := []) (b := ad k0) C (xc_N_fail q_21.2 k0 (-9 : Int32) _ hk0 e_74) rfl (gw_sub (gw_V xg_N_fail ml_N_66 im_N_fail se_N_fail wi_N)) na_N_fail (rm_lt (by omega) (by decide)) ⟨Nat.zero_le _, Nat.zero_le _⟩ k0 (at_N hk0) rfl rfl (Nat.le_of_ble_eq_true rfl) xd_N_enter_74 ?_
            cases hm
            exact aw_iret C xd_N_enter_77
        · rw [if_pos c_61] at hm
          refine aw_iconst (v := (0 : Int32)) C xd_N_enter_64 (by decide) ?_
          cases hm
          exact aw_iret C xd_N_enter_65
    · rw [if_neg c_33] at hm
      refine aw_aload_n C 2 xd_N_enter_36 rfl rfl ?_
      refine aw_aload_n C 3 xd_N_enter_37 rfl rfl ?_
      refine aw_iload_n C 4 xd_N_enter_38 rfl rfl ?_
      refine aw_iload_n C 5 xd_N_enter_39 rfl rfl ?_
      refine aw_iconst (v := (1 : Int32)) C xd_N_enter_40 (by decide) ?_
      refine aw_iadd C xd_N_enter_41 ?_
      obtain ⟨q_42, e_42, hm⟩ := aw_bnd hm
      refine aw_callVi (As := [.ref (ad k1), .int a2, .int (a3 + (1 : Int32))]) (rest := []) (b := ad k0) C (hW q_21.2 k0 k1 a2 (a3 + (1 : Int32)) _ hk0 hk1 e_42) rfl (gw_sub (gw_V xg_N_work ml_N_29 im_N_work se_N_work wi_N)) na_N_work (rm_lt (by omega) (by decide)) ⟨Nat.zero_le _, Nat.zero_le _⟩ k0 (at_N hk0) rfl rfl (Nat.le_of_ble_eq_true rfl) xd_N_enter_42 ?_
      refine aw_goto (tgt := 49) C xd_N_enter_45 (by decide) ?_
      refine aw_istore (L' := [(8, .int q_42.1), (7, .int q_21.1), (6, .int q_5), (0, .ref (ad k0)), (1, .ref (ad k1)), (2, .int a2), (3, .int a3), (4, .int a4), (5, .int a5)]) C xd_N_enter_49 (by decide) rfl ?_
      refine aw_aload_n C 3 xd_N_enter_51 rfl rfl ?_
      refine aw_get C k0 (kd_lt hk0) (ly_N hk0) rfl (fun w h => List.mem_cons_of_mem _ (xi_N w h)) 2 (by decide) rfl (List.mem_cons_of_mem _ fl_N_22) xd_N_enter_52 ?_
      refine aw_if_ne (tgt := 64) C xd_N_enter_55 (by decide) (fun c_55 => ?_) (fun c_55 => ?_)
      · rw [if_neg c_55] at hm
        refine aw_iconst (v := (0 : Int32)) C xd_N_enter_64 (by decide) ?_
        cases hm
        exact aw_iret C xd_N_enter_65
      · rw [if_pos c_55] at hm
        refine aw_iload C 2 xd_N_enter_58 rfl ?_
        refine aw_iconst (v := (-1 : Int32)) C xd_N_enter_60 (by decide) ?_
        refine aw_icmp_ne (tgt := 66) C xd_N_enter_61 (by decide) (fun c_61 => ?_) (fun c_61 => ?_)
        · rw [if_neg c_61] at hm
          refine aw_iload_n C 5 xd_N_enter_66 rfl rfl ?_
          refine aw_iconst (v := (5 : Int32)) C xd_N_enter_67 (by decide) ?_
          refine aw_icmp_lt (tgt := 78) C xd_N_enter_68 (by decide) (fun c_68 => ?_) (fun c_68 => ?_)
          · rw [if_pos c_68] at hm
            refine aw_aload_n C 3 xd_N_enter_78 rfl rfl ?_
            refine aw_get C k0 (kd_lt hk0) (ly_N hk0) rfl (fun w h => List.mem_cons_of_mem _ (xi_N w h)) 0 (by decide) rfl (List.mem_cons_of_mem _ fl_N_11) xd_N_enter_79 ?_
            refine aw_iload_n C 5 xd_N_enter_82 rfl rfl ?_
            refine aw_iconst (v := (1 : Int32)) C xd_N_enter_83 (by decide) ?_
            refine aw_iadd C xd_N_enter_84 ?_
            obtain ⟨g_85, hm⟩ := aw_grd hm
            refine aw_aald C (k0 + 1) (kd_lt (kf_N_frames hk0)) 4 (ly_F6 (kf_N_frames hk0)) rfl (aw_in_ok g_85) (if_pos (aw_in_lt g_85)) xd_N_enter_85 ?_
            refine aw_iload C 7 xd_N_enter_86 rfl ?_
            refine aw_iload C 8 xd_N_enter_88 rfl ?_
            refine aw_iload C 1 xd_N_enter_90 rfl ?_
            refine aw_iload C 0 xd_N_enter_92 rfl ?_
            obtain ⟨q_94, e_94, hm⟩ := aw_bnd hm
            refine aw_callVv (As := [.int a4, .int a5, .int q_21.1, .int q_42.1]) (rest := []) (b := ad (k0 + 1 + 1 + (Int32.toNatClampNeg (a2 + (1 : Int32))))) C (xc_F_open q_42.2 (k0 + 1 + 1 + (Int32.toNatClampNeg (a2 + (1 : Int32)))) a4 a5 q_21.1 q_42.1 _ (ka_F6 (kf_N_frames hk0) (aw_in_lt g_85)) e_94) rfl (gw_sub (gw_V xg_F_open ml_N_25 im_F_open se_F_open wi_F)) na_F_open (rm_lt (by omega) (by decide)) ⟨Nat.zero_le _, Nat.zero_le _⟩ (k0 + 1 + 1 + (Int32.toNatClampNeg (a2 + (1 : Int32)))) (at_F (ka_F6 (kf_N_frames hk0) (aw_in_lt g_85))) rfl rfl (Nat.le_of_ble_eq_true rfl) xd_N_enter_94 ?_
            refine aw_aload_n C 3 xd_N_enter_97 rfl rfl ?_
            refine aw_aload_n C 4 xd_N_enter_98 rfl rfl ?_
            refine aw_iload_n C 5 xd_N_enter_99 rfl rfl ?_
            refine aw_iconst (v := (1 : Int32)) C xd_N_enter_100 (by decide) ?_
            refine aw_iadd C xd_N_enter_101 ?_
            refine aw_iconst (v := (0 : Int32)) C xd_N_enter_102 (by decide) ?_
            obtain ⟨q_103, e_103, hm⟩ := aw_bnd hm
            refine aw_callVi (As := [.ref (ad k1), .int (a2 + (1 : Int32)), .int (0 : Int32)]) (rest := []) (b := ad k0) C (hW q_94 k0 k1 (a2 + (1 : Int32)) (0 : Int32) _ hk0 hk1 e_103) rfl (gw_sub (gw_V xg_N_work ml_N_29 im_N_work se_N_work wi_N)) na_N_work (rm_lt (by omega) (by decide)) ⟨Nat.zero_le _, Nat.zero_le _⟩ k0 (at_N hk0) rfl rfl (Nat.le_of_ble_eq_true rfl) xd_N_enter_103 ?_
            cases hm
            exact aw_iret C xd_N_enter_106
          · rw [if_neg c_68] at hm
            refine aw_aload_n C 3 xd_N_enter_71 rfl rfl ?_
            refine aw_bipush (v := (-9 : Int32)) C xd_N_enter_72 (by decide) ?_
            obtain ⟨q_74, e_74, hm⟩ := aw_bnd hm
            refine aw_callVi (As := [.int (-9 : Int32)]) (rest := []) (b := ad k0) C (xc_N_fail q_42.2 k0 (-9 : Int32) _ hk0 e_74) rfl (gw_sub (gw_V xg_N_fail ml_N_66 im_N_fail se_N_fail wi_N)) na_N_fail (rm_lt (by omega) (by decide)) ⟨Nat.zero_le _, Nat.zero_le _⟩ k0 (at_N hk0) rfl rfl (Nat.le_of_ble_eq_true rfl) xd_N_enter_74 ?_
            cases hm
            exact aw_iret C xd_N_enter_77
        · rw [if_pos c_61] at hm
          refine aw_iconst (v := (0 : Int32)) C xd_N_enter_64 (by decide) ?_
          cases hm
          exact aw_iret C xd_N_enter_65
def xm_N_combine (W : aw_m → Nat → Nat → Int32 → Int32 → Option (Int32 × aw_m)) (σ : aw_m) (k0 : Nat) (k1 : Nat) (a2 : Int32) (a3 : Int32) (a4 : Int32) : Option (Int32 × aw_m) := (W σ k0 k1 a2 (a3 + (1 : Int32))).bind fun q_6 => (W q_6.2 k0 k1 a2 (a3 + (1 : Int32))).bind fun q_17 => (if q_17.2 k0 2 = 0 then (if a4 = (4 : Int32) then some (q_6.1 + q_17.1, q_17.2) else (if a4 = (5 : Int32) then some (q_6.1 - q_17.1, q_17.2) else (if a4 = (6 : Int32) then some (q_6.1 * q_17.1, q_17.2) else (if a4 = (7 : Int32) then (if q_17.1 = 0 then (xm_N_fail q_17.2 k0 (-8 : Int32)).bind fun q_102 => some (q_102.1, q_102.2) else if ¬ q_17.1 = 0 then some (q_6.1 / q_17.1, q_17.2) else none) else (if a4 = (8 : Int32) then (if q_17.1 ≤ q_6.1 then some ((0 : Int32), q_17.2) else some ((1 : Int32), q_17.2)) else (if a4 = (9 : Int32) then some ((0 : Int32), q_17.2) else (if a4 = (10 : Int32) then some (q_17.1, q_17.2) else some ((0 : Int32), q_17.2)))))))) else some ((0 : Int32), q_17.2))
set_option maxHeartbeats 4000000 in
set_option maxRecDepth 100000 in
theorem xc_N_combine (W : aw_m → Nat → Nat → Int32 → Int32 → Option (Int32 × aw_m)) (dw : Nat) (hW : ∀ (σ : aw_m) (k0 : Nat) (k1 : Nat) (a2 : Int32) (a3 : Int32) (q : Int32 × aw_m) (hk0 : kd_k k0 = 12) (hk1 : kd_k k1 = 8), W σ k0 k1 a2 a3 = some q → aw_M l D (ty_z ids) (zs_T ps) xy_N_work (xw_N_work :: gw_l) (rm_D (dw)) [.ref (ad k0), .ref (ad k1), .int a2, .int a3] (cw_w ad ids σ) (some (.int q.1)) (cw_w ad ids q.2)) (σ : aw_m) (k0 : Nat) (k1 : Nat) (a2 : Int32) (a3 : Int32) (a4 : Int32) (q : Int32 × aw_m) (hk0 : kd_k k0 = 12) (hk1 : kd_k k1 = 8) (hm : xm_N_combine W σ k0 k1 a2 a3 a4 = some q) : aw_M l D (ty_z ids) (zs_T ps) xy_N_combine (xw_N_combine :: gw_l) (rm_D (dw + 1)) [.ref (ad k0), .ref (ad k1), .int a2, .int a3, .int a4] (cw_w ad ids σ) (some (.int q.1)) (cw_w ad ids q.2) := by
  refine aw_intro (cc := xb_N_combine) (n := 7) (ret := (some .int)) "ModuleShelf$Machine" rfl (by decide) rfl (Nat.le_of_ble_eq_true rfl) ?_
  intro κ C
  unfold xm_N_combine at hm
  refine aw_aload_n C 0 xd_N_combine_0 rfl rfl ?_
  refine aw_aload_n C 1 xd_N_combine_1 rfl rfl ?_
  refine aw_iload_n C 2 xd_N_combine_2 rfl rfl ?_
  refine aw_iload_n C 3 xd_N_combine_3 rfl rfl ?_
  refine aw_iconst (v := (1 : Int32)) C xd_N_combine_4 (by decide) ?_
  refine aw_iadd C xd_N_combine_5 ?_
  obtain ⟨q_6, e_6, hm⟩ := aw_bnd hm
  refine aw_callVi (As := [.ref (ad k1), .int a2, .int (a3 + (1 : Int32))]) (rest := []) (b := ad k0) C (hW σ k0 k1 a2 (a3 + (1 : Int32)) _ hk0 hk1 e_6) rfl (gw_sub (gw_V xg_N_work ml_N_29 im_N_work se_N_work wi_N)) na_N_work (rm_lt (by omega) (by decide)) ⟨Nat.zero_le _, Nat.zero_le _⟩ k0 (at_N hk0) rfl rfl (Nat.le_of_ble_eq_true rfl) xd_N_combine_6 ?_
  refine aw_istore (L' := [(5, .int q_6.1), (0, .ref (ad k0)), (1, .ref (ad k1)), (2, .int a2), (3, .int a3), (4, .int a4)]) C xd_N_combine_9 (by decide) rfl ?_
  refine aw_aload_n C 1 xd_N_combine_11 rfl rfl ?_
  refine aw_aload_n C 2 xd_N_combine_12 rfl rfl ?_
  refine aw_iload_n C 3 xd_N_combine_13 rfl rfl ?_
  refine aw_iload_n C 4 xd_N_combine_14 rfl rfl ?_
  refine aw_iconst (v := (1 : Int32)) C xd_N_combine_15 (by decide) ?_
  refine aw_iadd C xd_N_combine_16 ?_
  obtain ⟨q_17, e_17, hm⟩ := aw_bnd hm
  refine aw_callVi (As := [.ref (ad k1), .int a2, .int (a3 + (1 : Int32))]) (rest := []) (b := ad k0) C (hW q_6.2 k0 k1 a2 (a3 + (1 : Int32)) _ hk0 hk1 e_17) rfl (gw_sub (gw_V xg_N_work ml_N_29 im_N_work se_N_work wi_N)) na_N_work (rm_lt (by omega) (by decide)) ⟨Nat.zero_le _, Nat.zero_le _⟩ k0 (at_N hk0) rfl rfl (Nat.le_of_ble_eq_true rfl) xd_N_combine_17 ?_
  refine aw_istore (L' := [(6, .int q_17.1), (5, .int q_6.1), (0, .ref (ad k0)), (1, .ref (ad k1)), (2, .int a2), (3, .int a3), (4, .int a4)]) C xd_N_combine_20 (by decide) rfl ?_
  refine aw_aload_n C 2 xd_N_combine_22 rfl rfl ?_
  refine aw_get C k0 (kd_lt hk0) (ly_N hk0) rfl (fun w h => List.mem_cons_of_mem _ (xi_N w h)) 2 (by decide) rfl (List.mem_cons_of_mem _ fl_N_22) xd_N_combine_23 ?_
  refine aw_if_eq (tgt := 31) C xd_N_combine_26 (by decide) (fun c_26 => ?_) (fun c_26 => ?_)
  · rw [if_pos c_26] at hm
    refine aw_iload C 6 xd_N_combine_31 rfl ?_
    by_cases c_33_4 : a4 = (4 : Int32)
    · rw [if_pos c_33_4] at hm
      refine aw_tabIn (off := 43) (tgt := 76) C xd_N_combine_33 (by rw [c_33_4]; decide) (by rw [c_33_4]; decide) (by rw [c_33_4]; rfl) (by decide) ?_
      refine aw_iload C 1 xd_N_combine_76 rfl ?_
      refine aw_iload C 0 xd_N_combine_78 rfl ?_
      refine aw_iadd C xd_N_combine_80 ?_
      cases hm
      exact aw_iret C xd_N_combine_81
    rw [if_neg c_33_4] at hm
    by_cases c_33_5 : a4 = (5 : Int32)
    · rw [if_pos c_33_5] at hm
      refine aw_tabIn (off := 49) (tgt := 82) C xd_N_combine_33 (by rw [c_33_5]; decide) (by rw [c_33_5]; decide) (by rw [c_33_5]; rfl) (by decide) ?_
      refine aw_iload C 1 xd_N_combine_82 rfl ?_
      refine aw_iload C 0 xd_N_combine_84 rfl ?_
      refine aw_isub C xd_N_combine_86 ?_
      cases hm
      exact aw_iret C xd_N_combine_87
    rw [if_neg c_33_5] at hm
    by_cases c_33_6 : a4 = (6 : Int32)
    · rw [if_pos c_33_6] at hm
      refine aw_tabIn (off := 55) (tgt := 88) C xd_N_combine_33 (by rw [c_33_6]; decide) (by rw [c_33_6]; decide) (by rw [c_33_6]; rfl) (by decide) ?_
      refine aw_iload C 1 xd_N_combine_88 rfl ?_
      refine aw_iload C 0 xd_N_combine_90 rfl ?_
      refine aw_imul C xd_N_combine_92 ?_
      cases hm
      exact aw_iret C xd_N_combine_93
    rw [if_neg c_33_6] at hm
    by_cases c_33_7 : a4 = (7 : Int32)
    · rw [if_pos c_33_7] at hm
      refine aw_tabIn (off := 61) (tgt := 94) C xd_N_combine_33 (by rw [c_33_7]; decide) (by rw [c_33_7]; decide) (by rw [c_33_7]; rfl) (by decide) ?_
      refine aw_iload C 0 xd_N_combine_94 rfl ?_
      refine aw_if_ne (tgt := 108) C xd_N_combine_96 (by decide) (fun c_96 => ?_) (fun c_96 => ?_)
      · rw [if_neg c_96] at hm
        refine aw_iload C 1 xd_N_combine_108 rfl ?_
        refine aw_iload C 0 xd_N_combine_110 rfl ?_
        obtain ⟨g_112, hm⟩ := aw_grd hm
        refine aw_idiv C xd_N_combine_112 g_112 ?_
        cases hm
        exact aw_iret C xd_N_combine_113
      · rw [if_pos c_96] at hm
        refine aw_aload_n C 2 xd_N_combine_99 rfl rfl ?_
        refine aw_bipush (v := (-8 : Int32)) C xd_N_combine_100 (by decide) ?_
        obtain ⟨q_102, e_102, hm⟩ := aw_bnd hm
        refine aw_callVi (As := [.int (-8 : Int32)]) (rest := []) (b := ad k0) C (xc_N_fail q_17.2 k0 (-8 : Int32) _ hk0 e_102) rfl (gw_sub (gw_V xg_N_fail ml_N_66 im_N_fail se_N_fail wi_N)) na_N_fail (rm_lt (by omega) (by decide)) ⟨Nat.zero_le _, Nat.zero_le _⟩ k0 (at_N hk0) rfl rfl (Nat.le_of_ble_eq_true rfl) xd_N_combine_102 ?_
        refine aw_goto (tgt := 113) C xd_N_combine_105 (by decide) ?_
        cases hm
        exact aw_iret C xd_N_combine_113
    rw [if_neg c_33_7] at hm
    by_cases c_33_8 : a4 = (8 : Int32)
    · rw [if_pos c_33_8] at hm
      refine aw_tabIn (off := 81) (tgt := 114) C xd_N_combine_33 (by rw [c_33_8]; decide) (by rw [c_33_8]; decide) (by rw [c_33_8]; rfl) (by decide) ?_
      refine aw_iload C 1 xd_N_combine_114 rfl ?_
      refine aw_iload C 0 xd_N_combine_116 rfl ?_
      refine aw_icmp_ge (tgt := 125) C xd_N_combine_118 (by decide) (fun c_118 => ?_) (fun c_118 => ?_)
      · rw [if_pos c_118] at hm
        refine aw_iconst (v := (0 : Int32)) C xd_N_combine_125 (by decide) ?_
        cases hm
        exact aw_iret C xd_N_combine_126
      · rw [if_neg c_118] at hm
        refine aw_iconst (v := (1 : Int32)) C xd_N_combine_121 (by decide) ?_
        refine aw_goto (tgt := 126) C xd_N_combine_122 (by decide) ?_
        cases hm
        exact aw_iret C xd_N_combine_126
    rw [if_neg c_33_8] at hm
    by_cases c_33_9 : a4 = (9 : Int32)
    · rw [if_pos c_33_9] at hm
      refine aw_tabIn (off := 97) (tgt := 130) C xd_N_combine_33 (by rw [c_33_9]; decide) (by rw [c_33_9]; decide) (by rw [c_33_9]; rfl) (by decide) ?_
      refine aw_iconst (v := (0 : Int32)) C xd_N_combine_130 (by decide) ?_
      cases hm
      exact aw_iret C xd_N_combine_131
    rw [if_neg c_33_9] at hm
    by_cases c_33_10 : a4 = (10 : Int32)
    · rw [if_pos c_33_10] at hm
      refine aw_tabIn (off := 94) (tgt := 127) C xd_N_combine_33 (by rw [c_33_10]; decide) (by rw [c_33_10]; decide) (by rw [c_33_10]; rfl) (by decide) ?_
      refine aw_iload C 0 xd_N_combine_127 rfl ?_
      cases hm
      exact aw_iret C xd_N_combine_129
    rw [if_neg c_33_10] at hm
    have t_33_4 := lv_neT c_33_4 (a := 4) (by decide)
    have t_33_5 := lv_neT c_33_5 (a := 5) (by decide)
    have t_33_6 := lv_neT c_33_6 (a := 6) (by decide)
    have t_33_7 := lv_neT c_33_7 (a := 7) (by decide)
    have t_33_8 := lv_neT c_33_8 (a := 8) (by decide)
    have t_33_9 := lv_neT c_33_9 (a := 9) (by decide)
    have t_33_10 := lv_neT c_33_10 (a := 10) (by decide)
    refine aw_tabOut (tgt := 130) C xd_N_combine_33 (by omega) (by decide) ?_
    refine aw_iconst (v := (0 : Int32)) C xd_N_combine_130 (by decide) ?_
    cases hm
    exact aw_iret C xd_N_combine_131
  · rw [if_neg c_26] at hm
    refine aw_iconst (v := (0 : Int32)) C xd_N_combine_29 (by decide) ?_
    cases hm
    exact aw_iret C xd_N_combine_30
def xm_N_work_b (W : aw_m → Nat → Nat → Int32 → Int32 → Option (Int32 × aw_m)) (σ : aw_m) (k0 : Nat) (k1 : Nat) (a2 : Int32) (a3 : Int32) : Option (Int32 × aw_m) := if aw_in a2 6 = true then if aw_in (σ (k0 + 1 + 1 + (Int32.toNatClampNeg a2)) 0) 6 = true then (if σ k0 2 = 0 then (if (4 : Int32) < a3 then some ((0 : Int32), σ) else (xm_C_lengthOf σ (((k1 + 1 + 2 + 11 * (Int32.toNatClampNeg (σ (k0 + 1 + 1 + (Int32.toNatClampNeg a2)) 0))) + 1) + 3) (σ (k0 + 1 + 1 + (Int32.toNatClampNeg a2)) 1)).bind fun q_50 => (if σ (k0 + 1 + 1 + (Int32.toNatClampNeg a2)) 4 < q_50 then (if σ k0 1 < (120 : Int32) then aw_l (aw_p σ k0 1 ((σ k0 1) + (1 : Int32))) fun s_81 => (xm_C_cellOf s_81 (((k1 + 1 + 2 + 11 * (Int32.toNatClampNeg (σ (k0 + 1 + 1 + (Int32.toNatClampNeg a2)) 0))) + 1) + 3) (s_81 (k0 + 1 + 1 + (Int32.toNatClampNeg a2)) 1) (s_81 (k0 + 1 + 1 + (Int32.toNatClampNeg a2)) 4)).bind fun q_96 => aw_l (aw_p s_81 (k0 + 1 + 1 + (Int32.toNatClampNeg a2)) 4 ((s_81 (k0 + 1 + 1 + (Int32.toNatClampNeg a2)) 4) + (1 : Int32))) fun s_109 => if aw_in q_96 42 = true then if aw_in q_96 42 = true then if aw_in q_96 42 = true then (if s_109 ((((k1 + 1 + 2 + 11 * (Int32.toNatClampNeg (σ (k0 + 1 + 1 + (Int32.toNatClampNeg a2)) 0))) + 1) + 3) + 3) (Int32.toNatClampNeg q_96) = (0 : Int32) then some (s_109 ((((k1 + 1 + 2 + 11 * (Int32.toNatClampNeg (σ (k0 + 1 + 1 + (Int32.toNatClampNeg a2)) 0))) + 1) + 3) + 4) (Int32.toNatClampNeg q_96), s_109) else (if s_109 ((((k1 + 1 + 2 + 11 * (Int32.toNatClampNeg (σ (k0 + 1 + 1 + (Int32.toNatClampNeg a2)) 0))) + 1) + 3) + 3) (Int32.toNatClampNeg q_96) = (1 : Int32) then (if s_109 ((((k1 + 1 + 2 + 11 * (Int32.toNatClampNeg (σ (k0 + 1 + 1 + (Int32.toNatClampNeg a2)) 0))) + 1) + 3) + 4) (Int32.toNatClampNeg q_96) = 0 then some (s_109 (k0 + 1 + 1 + (Int32.toNatClampNeg a2)) 2, s_109) else some (s_109 (k0 + 1 + 1 + (Int32.toNatClampNeg a2)) 3, s_109)) else (if s_109 ((((k1 + 1 + 2 + 11 * (Int32.toNatClampNeg (σ (k0 + 1 + 1 + (Int32.toNatClampNeg a2)) 0))) + 1) + 3) + 3) (Int32.toNatClampNeg q_96) = (2 : Int32) then (xm_M_valueOf s_109 k1 (s_109 ((((k1 + 1 + 2 + 11 * (Int32.toNatClampNeg (σ (k0 + 1 + 1 + (Int32.toNatClampNeg a2)) 0))) + 1) + 3) + 4) (Int32.toNatClampNeg q_96)) (s_109 ((((k1 + 1 + 2 + 11 * (Int32.toNatClampNeg (σ (k0 + 1 + 1 + (Int32.toNatClampNeg a2)) 0))) + 1) + 3) + 5) (Int32.toNatClampNeg q_96))).bind fun q_231 => some (q_231, s_109) else (if s_109 ((((k1 + 1 + 2 + 11 * (Int32.toNatClampNeg (σ (k0 + 1 + 1 + (Int32.toNatClampNeg a2)) 0))) + 1) + 3) + 3) (Int32.toNatClampNeg q_96) = (3 : Int32) then (xm_N_assign W s_109 k0 k1 a2 a3 (s_109 ((((k1 + 1 + 2 + 11 * (Int32.toNatClampNeg (σ (k0 + 1 + 1 + (Int32.toNatClampNeg a2)) 0))) + 1) + 3) + 5) (Int32.toNatClampNeg q_96))).bind fun q_241 => some (q_241.1, q_241.2) else (if s_109 ((((k1 + 1 + 2 + 11 * (Int32.toNatClampNeg (σ (k0 + 1 + 1 + (Int32.toNatClampNeg a2)) 0))) + 1) + 3) + 3) (Int32.toNatClampNeg q_96) = (4 : Int32) then if aw_in q_96 42 = true then (xm_N_combine W s_109 k0 k1 a2 a3 (s_109 ((((k1 + 1 + 2 + 11 * (Int32.toNatClampNeg (σ (k0 + 1 + 1 + (Int32.toNatClampNeg a2)) 0))) + 1) + 3) + 3) (Int32.toNatClampNeg q_96))).bind fun q_277 => some (q_277.1, q_277.2) else none else (if s_109 ((((k1 + 1 + 2 + 11 * (Int32.toNatClampNeg (σ (k0 + 1 + 1 + (Int32.toNatClampNeg a2)) 0))) + 1) + 3) + 3) (Int32.toNatClampNeg q_96) = (5 : Int32) then if aw_in q_96 42 = true then (xm_N_combine W s_109 k0 k1 a2 a3 (s_109 ((((k1 + 1 + 2 + 11 * (Int32.toNatClampNeg (σ (k0 + 1 + 1 + (Int32.toNatClampNeg a2)) 0))) + 1) + 3) + 3) (Int32.toNatClampNeg q_96))).bind fun q_277 => some (q_277.1, q_277.2) else none else (if s_109 ((((k1 + 1 + 2 + 11 * (Int32.toNatClampNeg (σ (k0 + 1 + 1 + (Int32.toNatClampNeg a2)) 0))) + 1) + 3) + 3) (Int32.toNatClampNeg q_96) = (6 : Int32) then if aw_in q_96 42 = true then (xm_N_combine W s_109 k0 k1 a2 a3 (s_109 ((((k1 + 1 + 2 + 11 * (Int32.toNatClampNeg (σ (k0 + 1 + 1 + (Int32.toNatClampNeg a2)) 0))) + 1) + 3) + 3) (Int32.toNatClampNeg q_96))).bind fun q_277 => some (q_277.1, q_277.2) else none else (if s_109 ((((k1 + 1 + 2 + 11 * (Int32.toNatClampNeg (σ (k0 + 1 + 1 + (Int32.toNatClampNeg a2)) 0))) + 1) + 3) + 3) (Int32.toNatClampNeg q_96) = (7 : Int32) then if aw_in q_96 42 = true then (xm_N_combine W s_109 k0 k1 a2 a3 (s_109 ((((k1 + 1 + 2 + 11 * (Int32.toNatClampNeg (σ (k0 + 1 + 1 + (Int32.toNatClampNeg a2)) 0))) + 1) + 3) + 3) (Int32.toNatClampNeg q_96))).bind fun q_277 => some (q_277.1, q_277.2) else none else (if s_109 ((((k1 + 1 + 2 + 11 * (Int32.toNatClampNeg (σ (k0 + 1 + 1 + (Int32.toNatClampNeg a2)) 0))) + 1) + 3) + 3) (Int32.toNatClampNeg q_96) = (8 : Int32) then if aw_in q_96 42 = true then (xm_N_combine W s_109 k0 k1 a2 a3 (s_109 ((((k1 + 1 + 2 + 11 * (Int32.toNatClampNeg (σ (k0 + 1 + 1 + (Int32.toNatClampNeg a2)) 0))) + 1) + 3) + 3) (Int32.toNatClampNeg q_96))).bind fun q_277 => some (q_277.1, q_277.2) else none else (if s_109 ((((k1 + 1 + 2 + 11 * (Int32.toNatClampNeg (σ (k0 + 1 + 1 + (Int32.toNatClampNeg a2)) 0))) + 1) + 3) + 3) (Int32.toNatClampNeg q_96) = (9 : Int32) then (xm_N_choose W s_109 k0 k1 a2 a3).bind fun q_249 => some (q_249.1, q_249.2) else (if s_109 ((((k1 + 1 + 2 + 11 * (Int32.toNatClampNeg (σ (k0 + 1 + 1 + (Int32.toNatClampNeg a2)) 0))) + 1) + 3) + 3) (Int32.toNatClampNeg q_96) = (10 : Int32) then if aw_in q_96 42 = true then (xm_N_combine W s_109 k0 k1 a2 a3 (s_109 ((((k1 + 1 + 2 + 11 * (Int32.toNatClampNeg (σ (k0 + 1 + 1 + (Int32.toNatClampNeg a2)) 0))) + 1) + 3) + 3) (Int32.toNatClampNeg q_96))).bind fun q_277 => some (q_277.1, q_277.2) else none else (if s_109 ((((k1 + 1 + 2 + 11 * (Int32.toNatClampNeg (σ (k0 + 1 + 1 + (Int32.toNatClampNeg a2)) 0))) + 1) + 3) + 3) (Int32.toNatClampNeg q_96) = (11 : Int32) then (xm_N_enter W s_109 k0 k1 a2 a3 (s_109 ((((k1 + 1 + 2 + 11 * (Int32.toNatClampNeg (σ (k0 + 1 + 1 + (Int32.toNatClampNeg a2)) 0))) + 1) + 3) + 4) (Int32.toNatClampNeg q_96)) (s_109 ((((k1 + 1 + 2 + 11 * (Int32.toNatClampNeg (σ (k0 + 1 + 1 + (Int32.toNatClampNeg a2)) 0))) + 1) + 3) + 5) (Int32.toNatClampNeg q_96))).bind fun q_261 => some (q_261.1, q_261.2) else if aw_in q_96 42 = true then (xm_N_combine W s_109 k0 k1 a2 a3 (s_109 ((((k1 + 1 + 2 + 11 * (Int32.toNatClampNeg (σ (k0 + 1 + 1 + (Int32.toNatClampNeg a2)) 0))) + 1) + 3) + 3) (Int32.toNatClampNeg q_96))).bind fun q_277 => some (q_277.1, q_277.2) else none)))))))))))) else none else none else none else (xm_N_fail σ k0 (-10 : Int32)).bind fun q_70 => some (q_70.1, q_70.2)) else some ((0 : Int32), σ))) else some ((0 : Int32), σ)) else none else none
def xm_N_work : Nat → aw_m → Nat → Nat → Int32 → Int32 → Option (Int32 × aw_m)
  | 0 => fun _ _ _ _ _ => none
  | d + 1 => xm_N_work_b (xm_N_work d)
set_option maxHeartbeats 4000000 in
set_option maxRecDepth 100000 in
theorem xc_N_work_b (W : aw_m → Nat → Nat → Int32 → Int32 → Option (Int32 × aw_m)) (dw : Nat) (hW : ∀ (σ : aw_m) (k0 : Nat) (k1 : Nat) (a2 : Int32) (a3 : Int32) (q : Int32 × aw_m) (hk0 : kd_k k0 = 12) (hk1 : kd_k k1 = 8), W σ k0 k1 a2 a3 = some q → aw_M l D (ty_z ids) (zs_T ps) xy_N_work (xw_N_work :: gw_l) (rm_D (dw)) [.ref (ad k0), .ref (ad k1), .int a2, .int a3] (cw_w ad ids σ) (some (.int q.1)) (cw_w ad ids q.2)) (σ : aw_m) (k0 : Nat) (k1 : Nat) (a2 : Int32) (a3 : Int32) (q : Int32 × aw_m) (hk0 : kd_k k0 = 12) (hk1 : kd_k k1 = 8) (hm : xm_N_work_b W σ k0 k1 a2 a3 = some q) : aw_M l D (ty_z ids) (zs_T ps) xy_N_work (xw_N_work :: gw_l) (rm_D (dw + 5)) [.ref (ad k0), .ref (ad k1), .int a2, .int a3] (cw_w ad ids σ) (some (.int q.1)) (cw_w ad ids q.2) := by
  refine aw_intro (cc := xb_N_work) (n := 9) (ret := (some .int)) "ModuleShelf$Machine" rfl (by decide) rfl (Nat.le_of_ble_eq_true rfl) ?_
  intro κ C
  unfold xm_N_work_b at hm
  refine aw_aload_n C 0 xd_N_work_0 rfl rfl ?_
  refine aw_get C k0 (kd_lt hk0) (ly_N hk0) rfl (fun w h => List.mem_cons_of_mem _ (xi_N w h)) 0 (by decide) rfl (List.mem_cons_of_mem _ fl_N_11) xd_N_work_1 ?_
  refine aw_iload_n C 2 xd_N_work_4 rfl rfl ?_
  obtain ⟨g_5, hm⟩ := aw_grd hm
  refine aw_aald C (k0 + 1) (kd_lt (kf_N_frames hk0)) 4 (ly_F6 (kf_N_frames hk0)) rfl (aw_in_ok g_5) (if_pos (aw_in_lt g_5)) xd_N_work_5 ?_
  refine aw_astore (L' := [(4, .ref (ad (k0 + 1 + 1 + (Int32.toNatClampNeg a2)))), (0, .ref (ad k0)), (1, .ref (ad k1)), (2, .int a2), (3, .int a3)]) C xd_N_work_6 (by decide) rfl ?_
  refine aw_aload_n C 2 xd_N_work_8 rfl rfl ?_
  refine aw_get C k1 (kd_lt hk1) (ly_M hk1) rfl (fun w h => List.mem_cons_of_mem _ (xi_M w h)) 0 (by decide) rfl (List.mem_cons_of_mem _ fl_N_33) xd_N_work_9 ?_
  refine aw_aload C 0 xd_N_work_12 rfl ?_
  refine aw_get C (k0 + 1 + 1 + (Int32.toNatClampNeg a2)) (kd_lt (ka_F6 (kf_N_frames hk0) (aw_in_lt g_5))) (ly_F (ka_F6 (kf_N_frames hk0) (aw_in_lt g_5))) rfl (fun w h => List.mem_cons_of_mem _ (xi_F w h)) 0 (by decide) rfl (List.mem_cons_of_mem _ fl_N_39) xd_N_work_14 ?_
  obtain ⟨g_17, hm⟩ := aw_grd hm
  refine aw_aald C (k1 + 1) (kd_lt (kf_M_images hk1)) 3 (ly_I6 (kf_M_images hk1)) rfl (aw_in_ok g_17) (if_pos (aw_in_lt g_17)) xd_N_work_17 ?_
  refine aw_get C (k1 + 1 + 2 + 11 * (Int32.toNatClampNeg (σ (k0 + 1 + 1 + (Int32.toNatClampNeg a2)) 0))) (kd_lt (ka_I6 (kf_M_images hk1) (aw_in_lt g_17))) (ly_I (ka_I6 (kf_M_images hk1) (aw_in_lt g_17))) rfl (fun w h => List.mem_cons_of_mem _ (xi_I w h)) 0 (by decide) rfl (List.mem_cons_of_mem _ fl_N_42) xd_N_work_18 ?_
  refine aw_get C ((k1 + 1 + 2 + 11 * (Int32.toNatClampNeg (σ (k0 + 1 + 1 + (Int32.toNatClampNeg a2)) 0))) + 1) (kd_lt (kf_I_unit (ka_I6 (kf_M_images hk1) (aw_in_lt g_17)))) (ly_U (kf_I_unit (ka_I6 (kf_M_images hk1) (aw_in_lt g_17)))) rfl (fun w h => List.mem_cons_of_mem _ (xi_U w h)) 5 (by decide) rfl (List.mem_cons_of_mem _ fl_N_48) xd_N_work_21 ?_
  refine aw_astore (L' := [(5, .ref (ad (((k1 + 1 + 2 + 11 * (Int32.toNatClampNeg (σ (k0 + 1 + 1 + (Int32.toNatClampNeg a2)) 0))) + 1) + 3))), (4, .ref (ad (k0 + 1 + 1 + (Int32.toNatClampNeg a2)))), (0, .ref (ad k0)), (1, .ref (ad k1)), (2, .int a2), (3, .int a3)]) C xd_N_work_24 (by decide) rfl ?_
  refine aw_aload_n C 2 xd_N_work_26 rfl rfl ?_
  refine aw_get C k0 (kd_lt hk0) (ly_N hk0) rfl (fun w h => List.mem_cons_of_mem _ (xi_N w h)) 2 (by decide) rfl (List.mem_cons_of_mem _ fl_N_22) xd_N_work_27 ?_
  refine aw_if_ne (tgt := 56) C xd_N_work_30 (by decide) (fun c_30 => ?_) (fun c_30 => ?_)
  · rw [if_neg c_30] at hm
    refine aw_iconst (v := (0 : Int32)) C xd_N_work_56 (by decide) ?_
    cases hm
    exact aw_iret C xd_N_work_57
  · rw [if_pos c_30] at hm
    refine aw_iload_n C 5 xd_N_work_33 rfl rfl ?_
    refine aw_iconst (v := (4 : Int32)) C xd_N_work_34 (by decide) ?_
    refine aw_icmp_gt (tgt := 56) C xd_N_work_35 (by decide) (fun c_35 => ?_) (fun c_35 => ?_)
    · rw [if_pos c_35] at hm
      refine aw_iconst (v := (0 : Int32)) C xd_N_work_56 (by decide) ?_
      cases hm
      exact aw_iret C xd_N_work_57
    · rw [if_neg c_35] at hm
      refine aw_aload C 1 xd_N_work_38 rfl ?_
      refine aw_get C (k0 + 1 + 1 + (Int32.toNatClampNeg a2)) (kd_lt (ka_F6 (kf_N_frames hk0) (aw_in_lt g_5))) (ly_F (ka_F6 (kf_N_frames hk0) (aw_in_lt g_5))) rfl (fun w h => List.mem_cons_of_mem _ (xi_F w h)) 4 (by decide) rfl (List.mem_cons_of_mem _ fl_N_54) xd_N_work_40 ?_
      refine aw_aload C 0 xd_N_work_43 rfl ?_
      refine aw_aload C 1 xd_N_work_45 rfl ?_
      refine aw_get C (k0 + 1 + 1 + (Int32.toNatClampNeg a2)) (kd_lt (ka_F6 (kf_N_frames hk0) (aw_in_lt g_5))) (ly_F (ka_F6 (kf_N_frames hk0) (aw_in_lt g_5))) rfl (fun w h => List.mem_cons_of_mem _ (xi_F w h)) 1 (by decide) rfl (List.mem_cons_of_mem _ fl_N_57) xd_N_work_47 ?_
      obtain ⟨q_50, e_50, hm⟩ := aw_bnd hm
      refine aw_callVi (As := [.int (σ (k0 + 1 + 1 + (Int32.toNatClampNeg a2)) 1)]) (rest := [.int (σ (k0 + 1 + 1 + (Int32.toNatClampNeg a2)) 4)]) (b := ad (((k1 + 1 + 2 + 11 * (Int32.toNatClampNeg (σ (k0 + 1 + 1 + (Int32.toNatClampNeg a2)) 0))) + 1) + 3)) C (xc_C_lengthOf σ (((k1 + 1 + 2 + 11 * (Int32.toNatClampNeg (σ (k0 + 1 + 1 + (Int32.toNatClampNeg a2)) 0))) + 1) + 3) (σ (k0 + 1 + 1 + (Int32.toNatClampNeg a2)) 1) _ (kf_U_code (kf_I_unit (ka_I6 (kf_M_images hk1) (aw_in_lt g_17)))) e_50) rfl (gw_sub (gw_V xg_C_lengthOf ml_N_60 im_C_lengthOf se_C_lengthOf wi_C)) na_C_lengthOf (rm_lt (by omega) (by decide)) ⟨Nat.zero_le _, Nat.zero_le _⟩ (((k1 + 1 + 2 + 11 * (Int32.toNatClampNeg (σ (k0 + 1 + 1 + (Int32.toNatClampNeg a2)) 0))) + 1) + 3) (at_C (kf_U_code (kf_I_unit (ka_I6 (kf_M_images hk1) (aw_in_lt g_17))))) rfl rfl (Nat.le_of_ble_eq_true rfl) xd_N_work_50 ?_
      refine aw_icmp_lt (tgt := 58) C xd_N_work_53 (by decide) (fun c_53 => ?_) (fun c_53 => ?_)
      · rw [if_pos c_53] at hm
        refine aw_aload_n C 2 xd_N_work_58 rfl rfl ?_
        refine aw_get C k0 (kd_lt hk0) (ly_N hk0) rfl (fun w h => List.mem_cons_of_mem _ (xi_N w h)) 1 (by decide) rfl (List.mem_cons_of_mem _ fl_N_18) xd_N_work_59 ?_
        refine aw_bipush (v := (120 : Int32)) C xd_N_work_62 (by decide) ?_
        refine aw_icmp_lt (tgt := 74) C xd_N_work_64 (by decide) (fun c_64 => ?_) (fun c_64 => ?_)
        · rw [if_pos c_64] at hm
          refine aw_aload_n C 2 xd_N_work_74 rfl rfl ?_
          refine aw_dup C xd_N_work_75 rfl ?_
          refine aw_get C k0 (kd_lt hk0) (ly_N hk0) rfl (fun w h => List.mem_cons_of_mem _ (xi_N w h)) 1 (by decide) rfl (List.mem_cons_of_mem _ fl_N_18) xd_N_work_76 ?_
          refine aw_iconst (v := (1 : Int32)) C xd_N_work_79 (by decide) ?_
          refine aw_iadd C xd_N_work_80 ?_
          obtain ⟨s_81, h_81, hm⟩ := aw_let hm
          refine aw_put (σ1 := s_81) (f := upd (σ k0) 1 ((σ k0 1) + (1 : Int32))) C k0 (kd_lt hk0) (ly_N hk0) rfl (fun w h => List.mem_cons_of_mem _ (xi_N w h)) xk_N xo_N xn_N 1 (by decide) (List.mem_cons_of_mem _ fl_N_18) rfl (ty := .int) (by decide +kernel) rfl rfl (Nat.le_of_ble_eq_true rfl) (ly_N hk0) h_81 xd_N_work_81 ?_
          refine aw_aload C 0 xd_N_work_84 rfl ?_
          refine aw_aload C 1 xd_N_work_86 rfl ?_
          refine aw_get C (k0 + 1 + 1 + (Int32.toNatClampNeg a2)) (kd_lt (ka_F6 (kf_N_frames hk0) (aw_in_lt g_5))) (ly_F (ka_F6 (kf_N_frames hk0) (aw_in_lt g_5))) rfl (fun w h => List.mem_cons_of_mem _ (xi_F w h)) 1 (by decide) rfl (List.mem_cons_of_mem _ fl_N_57) xd_N_work_88 ?_
          refine aw_aload C 1 xd_N_work_91 rfl ?_
          refine aw_get C (k0 + 1 + 1 + (Int32.toNatClampNeg a2)) (kd_lt (ka_F6 (kf_N_frames hk0) (aw_in_lt g_5))) (ly_F (ka_F6 (kf_N_frames hk0) (aw_in_lt g_5))) rfl (fun w h => List.mem_cons_of_mem _ (xi_F w h)) 4 (by decide) rfl (List.mem_cons_of_mem _ fl_N_54) xd_N_work_93 ?_
          obtain ⟨q_96, e_96, hm⟩ := aw_bnd hm
          refine aw_callVi (As := [.int (s_81 (k0 + 1 + 1 + (Int32.toNatClampNeg a2)) 1), .int (s_81 (k0 + 1 + 1 + (Int32.toNatClampNeg a2)) 4)]) (rest := []) (b := ad (((k1 + 1 + 2 + 11 * (Int32.toNatClampNeg (σ (k0 + 1 + 1 + (Int32.toNatClampNeg a2)) 0))) + 1) + 3)) C (xc_C_cellOf s_81 (((k1 + 1 + 2 + 11 * (Int32.toNatClampNeg (σ (k0 + 1 + 1 + (Int32.toNatClampNeg a2)) 0))) + 1) + 3) (s_81 (k0 + 1 + 1 + (Int32.toNatClampNeg a2)) 1) (s_81 (k0 + 1 + 1 + (Int32.toNatClampNeg a2)) 4) _ (kf_U_code (kf_I_unit (ka_I6 (kf_M_images hk1) (aw_in_lt g_17)))) e_96) rfl (gw_sub (gw_V xg_C_cellOf ml_N_69 im_C_cellOf se_C_cellOf wi_C)) na_C_cellOf (rm_lt (by omega) (by decide)) ⟨Nat.zero_le _, Nat.zero_le _⟩ (((k1 + 1 + 2 + 11 * (Int32.toNatClampNeg (σ (k0 + 1 + 1 + (Int32.toNatClampNeg a2)) 0))) + 1) + 3) (at_C (kf_U_code (kf_I_unit (ka_I6 (kf_M_images hk1) (aw_in_lt g_17))))) rfl rfl (Nat.le_of_ble_eq_true rfl) xd_N_work_96 ?_
          refine aw_istore (L' := [(6, .int q_96), (5, .ref (ad (((k1 + 1 + 2 + 11 * (Int32.toNatClampNeg (σ (k0 + 1 + 1 + (Int32.toNatClampNeg a2)) 0))) + 1) + 3))), (4, .ref (ad (k0 + 1 + 1 + (Int32.toNatClampNeg a2)))), (0, .ref (ad k0)), (1, .ref (ad k1)), (2, .int a2), (3, .int a3)]) C xd_N_work_99 (by decide) rfl ?_
          refine aw_aload C 2 xd_N_work_101 rfl ?_
          refine aw_dup C xd_N_work_103 rfl ?_
          refine aw_get C (k0 + 1 + 1 + (Int32.toNatClampNeg a2)) (kd_lt (ka_F6 (kf_N_frames hk0) (aw_in_lt g_5))) (ly_F (ka_F6 (kf_N_frames hk0) (aw_in_lt g_5))) rfl (fun w h => List.mem_cons_of_mem _ (xi_F w h)) 4 (by decide) rfl (List.mem_cons_of_mem _ fl_N_54) xd_N_work_104 ?_
          refine aw_iconst (v := (1 : Int32)) C xd_N_work_107 (by decide) ?_
          refine aw_iadd C xd_N_work_108 ?_
          obtain ⟨s_109, h_109, hm⟩ := aw_let hm
          refine aw_put (σ1 := s_109) (f := upd (s_81 (k0 + 1 + 1 + (Int32.toNatClampNeg a2))) 4 ((s_81 (k0 + 1 + 1 + (Int32.toNatClampNeg a2)) 4) + (1 : Int32))) C (k0 + 1 + 1 + (Int32.toNatClampNeg a2)) (kd_lt (ka_F6 (kf_N_frames hk0) (aw_in_lt g_5))) (ly_F (ka_F6 (kf_N_frames hk0) (aw_in_lt g_5))) rfl (fun w h => List.mem_cons_of_mem _ (xi_F w h)) xk_F xo_F xn_F 4 (by decide) (List.mem_cons_of_mem _ fl_N_54) rfl (ty := .int) (by decide +kernel) rfl rfl (Nat.le_of_ble_eq_true rfl) (ly_F (ka_F6 (kf_N_frames hk0) (aw_in_lt g_5))) h_109 xd_N_work_109 ?_
          refine aw_aload C 1 xd_N_work_112 rfl ?_
          refine aw_get C (((k1 + 1 + 2 + 11 * (Int32.toNatClampNeg (σ (k0 + 1 + 1 + (Int32.toNatClampNeg a2)) 0))) + 1) + 3) (kd_lt (kf_U_code (kf_I_unit (ka_I6 (kf_M_images hk1) (aw_in_lt g_17))))) (ly_C (kf_U_code (kf_I_unit (ka_I6 (kf_M_images hk1) (aw_in_lt g_17))))) rfl (fun w h => List.mem_cons_of_mem _ (xi_C w h)) 5 (by decide) rfl (List.mem_cons_of_mem _ fl_N_73) xd_N_work_114 ?_
          refine aw_iload C 0 xd_N_work_117 rfl ?_
          obtain ⟨g_119, hm⟩ := aw_grd hm
          refine aw_iald C ((((k1 + 1 + 2 + 11 * (Int32.toNatClampNeg (σ (k0 + 1 + 1 + (Int32.toNatClampNeg a2)) 0))) + 1) + 3) + 4) (kd_lt (kf_C_as (kf_U_code (kf_I_unit (ka_I6 (kf_M_images hk1) (aw_in_lt g_17)))))) 0 (ly_A42 (kf_C_as (kf_U_code (kf_I_unit (ka_I6 (kf_M_images hk1) (aw_in_lt g_17)))))) rfl (aw_in_ok g_119) xd_N_work_119 ?_
          refine aw_istore (L' := [(7, .int (s_109 ((((k1 + 1 + 2 + 11 * (Int32.toNatClampNeg (σ (k0 + 1 + 1 + (Int32.toNatClampNeg a2)) 0))) + 1) + 3) + 4) (Int32.toNatClampNeg q_96))), (6, .int q_96), (5, .ref (ad (((k1 + 1 + 2 + 11 * (Int32.toNatClampNeg (σ (k0 + 1 + 1 + (Int32.toNatClampNeg a2)) 0))) + 1) + 3))), (4, .ref (ad (k0 + 1 + 1 + (Int32.toNatClampNeg a2)))), (0, .ref (ad k0)), (1, .ref (ad k1)), (2, .int a2), (3, .int a3)]) C xd_N_work_120 (by decide) rfl ?_
          refine aw_aload C 2 xd_N_work_122 rfl ?_
          refine aw_get C (((k1 + 1 + 2 + 11 * (Int32.toNatClampNeg (σ (k0 + 1 + 1 + (Int32.toNatClampNeg a2)) 0))) + 1) + 3) (kd_lt (kf_U_code (kf_I_unit (ka_I6 (kf_M_images hk1) (aw_in_lt g_17))))) (ly_C (kf_U_code (kf_I_unit (ka_I6 (kf_M_images hk1) (aw_in_lt g_17))))) rfl (fun w h => List.mem_cons_of_mem _ (xi_C w h)) 6 (by decide) rfl (List.mem_cons_of_mem _ fl_N_77) xd_N_work_124 ?_
          refine aw_iload C 1 xd_N_work_127 rfl ?_
          obtain ⟨g_129, hm⟩ := aw_grd hm
          refine aw_iald C ((((k1 + 1 + 2 + 11 * (Int32.toNatClampNeg (σ (k0 + 1 + 1 + (Int32.toNatClampNeg a2)) 0))) + 1) + 3) + 5) (kd_lt (kf_C_bs (kf_U_code (kf_I_unit (ka_I6 (kf_M_images hk1) (aw_in_lt g_17)))))) 0 (ly_A42 (kf_C_bs (kf_U_code (kf_I_unit (ka_I6 (kf_M_images hk1) (aw_in_lt g_17)))))) rfl (aw_in_ok g_129) xd_N_work_129 ?_
          refine aw_istore (L' := [(8, .int (s_109 ((((k1 + 1 + 2 + 11 * (Int32.toNatClampNeg (σ (k0 + 1 + 1 + (Int32.toNatClampNeg a2)) 0))) + 1) + 3) + 5) (Int32.toNatClampNeg q_96))), (7, .int (s_109 ((((k1 + 1 + 2 + 11 * (Int32.toNatClampNeg (σ (k0 + 1 + 1 + (Int32.toNatClampNeg a2)) 0))) + 1) + 3) + 4) (Int32.toNatClampNeg q_96))), (6, .int q_96), (5, .ref (ad (((k1 + 1 + 2 + 11 * (Int32.toNatClampNeg (σ (k0 + 1 + 1 + (Int32.toNatClampNeg a2)) 0))) + 1) + 3))), (4, .ref (ad (k0 + 1 + 1 + (Int32.toNatClampNeg a2)))), (0, .ref (ad k0)), (1, .ref (ad k1)), (2, .int a2), (3, .int a3)]) C xd_N_work_130 (by decide) rfl ?_
          refine aw_aload C 3 xd_N_work_132 rfl ?_
          refine aw_get C (((k1 + 1 + 2 + 11 * (Int32.toNatClampNeg (σ (k0 + 1 + 1 + (Int32.toNatClampNeg a2)) 0))) + 1) + 3) (kd_lt (kf_U_code (kf_I_unit (ka_I6 (kf_M_images hk1) (aw_in_lt g_17))))) (ly_C (kf_U_code (kf_I_unit (ka_I6 (kf_M_images hk1) (aw_in_lt g_17))))) rfl (fun w h => List.mem_cons_of_mem _ (xi_C w h)) 4 (by decide) rfl (List.mem_cons_of_mem _ fl_N_80) xd_N_work_134 ?_
          refine aw_iload C 2 xd_N_work_137 rfl ?_
          obtain ⟨g_139, hm⟩ := aw_grd hm
          refine aw_iald C ((((k1 + 1 + 2 + 11 * (Int32.toNatClampNeg (σ (k0 + 1 + 1 + (Int32.toNatClampNeg a2)) 0))) + 1) + 3) + 3) (kd_lt (kf_C_ops (kf_U_code (kf_I_unit (ka_I6 (kf_M_images hk1) (aw_in_lt g_17)))))) 0 (ly_A42 (kf_C_ops (kf_U_code (kf_I_unit (ka_I6 (kf_M_images hk1) (aw_in_lt g_17)))))) rfl (aw_in_ok g_139) xd_N_work_139 ?_
          by_cases c_140_0 : s_109 ((((k1 + 1 + 2 + 11 * (Int32.toNatClampNeg (σ (k0 + 1 + 1 + (Int32.toNatClampNeg a2)) 0))) + 1) + 3) + 3) (Int32.toNatClampNeg q_96) = (0 : Int32)
          · rw [if_pos c_140_0] at hm
            refine aw_tabIn (off := 64) (tgt := 204) C xd_N_work_140 (by rw [c_140_0]; decide) (by rw [c_140_0]; decide) (by rw [c_140_0]; rfl) (by decide) ?_
            refine aw_iload C 1 xd_N_work_204 rfl ?_
            cases hm
            exact aw_iret C xd_N_work_206
          rw [if_neg c_140_0] at hm
          by_cases c_140_1 : s_109 ((((k1 + 1 + 2 + 11 * (Int32.toNatClampNeg (σ (k0 + 1 + 1 + (Int32.toNatClampNeg a2)) 0))) + 1) + 3) + 3) (Int32.toNatClampNeg q_96) = (1 : Int32)
          · rw [if_pos c_140_1] at hm
            refine aw_tabIn (off := 67) (tgt := 207) C xd_N_work_140 (by rw [c_140_1]; decide) (by rw [c_140_1]; decide) (by rw [c_140_1]; rfl) (by decide) ?_
            refine aw_iload C 1 xd_N_work_207 rfl ?_
            refine aw_if_ne (tgt := 220) C xd_N_work_209 (by decide) (fun c_209 => ?_) (fun c_209 => ?_)
            · rw [if_neg c_209] at hm
              refine aw_aload C 4 xd_N_work_220 rfl ?_
              refine aw_get C (k0 + 1 + 1 + (Int32.toNatClampNeg a2)) (kd_lt (ka_F6 (kf_N_frames hk0) (aw_in_lt g_5))) (ly_F (ka_F6 (kf_N_frames hk0) (aw_in_lt g_5))) rfl (fun w h => List.mem_cons_of_mem _ (xi_F w h)) 3 (by decide) rfl (List.mem_cons_of_mem _ fl_N_86) xd_N_work_222 ?_
              cases hm
              exact aw_iret C xd_N_work_225
            · rw [if_pos c_209] at hm
              refine aw_aload C 4 xd_N_work_212 rfl ?_
              refine aw_get C (k0 + 1 + 1 + (Int32.toNatClampNeg a2)) (kd_lt (ka_F6 (kf_N_frames hk0) (aw_in_lt g_5))) (ly_F (ka_F6 (kf_N_frames hk0) (aw_in_lt g_5))) rfl (fun w h => List.mem_cons_of_mem _ (xi_F w h)) 2 (by decide) rfl (List.mem_cons_of_mem _ fl_N_83) xd_N_work_214 ?_
              refine aw_goto (tgt := 225) C xd_N_work_217 (by decide) ?_
              cases hm
              exact aw_iret C xd_N_work_225
          rw [if_neg c_140_1] at hm
          by_cases c_140_2 : s_109 ((((k1 + 1 + 2 + 11 * (Int32.toNatClampNeg (σ (k0 + 1 + 1 + (Int32.toNatClampNeg a2)) 0))) + 1) + 3) + 3) (Int32.toNatClampNeg q_96) = (2 : Int32)
          · rw [if_pos c_140_2] at hm
            refine aw_tabIn (off := 86) (tgt := 226) C xd_N_work_140 (by rw [c_140_2]; decide) (by rw [c_140_2]; decide) (by rw [c_140_2]; rfl) (by decide) ?_
            refine aw_aload_n C 6 xd_N_work_226 rfl rfl ?_
            refine aw_iload C 1 xd_N_work_227 rfl ?_
            refine aw_iload C 0 xd_N_work_229 rfl ?_
            obtain ⟨q_231, e_231, hm⟩ := aw_bnd hm
            refine aw_callVi (As := [.int (s_109 ((((k1 + 1 + 2 + 11 * (Int32.toNatClampNeg (σ (k0 + 1 + 1 + (Int32.toNatClampNeg a2)) 0))) + 1) + 3) + 4) (Int32.toNatClampNeg q_96)), .int (s_109 ((((k1 + 1 + 2 + 11 * (Int32.toNatClampNeg (σ (k0 + 1 + 1 + (Int32.toNatClampNeg a2)) 0))) + 1) + 3) + 5) (Int32.toNatClampNeg q_96))]) (rest := []) (b := ad k1) C (xc_M_valueOf s_109 k1 (s_109 ((((k1 + 1 + 2 + 11 * (Int32.toNatClampNeg (σ (k0 + 1 + 1 + (Int32.toNatClampNeg a2)) 0))) + 1) + 3) + 4) (Int32.toNatClampNeg q_96)) (s_109 ((((k1 + 1 + 2 + 11 * (Int32.toNatClampNeg (σ (k0 + 1 + 1 + (Int32.toNatClampNeg a2)) 0))) + 1) + 3) + 5) (Int32.toNatClampNeg q_96)) _ hk1 e_231) rfl (gw_sub (gw_V xg_M_valueOf ml_N_89 im_M_valueOf se_M_valueOf wi_M)) na_M_valueOf (rm_lt (by omega) (by decide)) ⟨Nat.zero_le _, Nat.zero_le _⟩ k1 (at_M hk1) rfl rfl (Nat.le_of_ble_eq_true rfl) xd_N_work_231 ?_
            cases hm
            exact aw_iret C xd_N_work_234
          rw [if_neg c_140_2] at hm
          by_cases c_140_3 : s_109 ((((k1 + 1 + 2 + 11 * (Int32.toNatClampNeg (σ (k0 + 1 + 1 + (Int32.toNatClampNeg a2)) 0))) + 1) + 3) + 3) (Int32.toNatClampNeg q_96) = (3 : Int32)
          · rw [if_pos c_140_3] at hm
            refine aw_tabIn (off := 95) (tgt := 235) C xd_N_work_140 (by rw [c_140_3]; decide) (by rw [c_140_3]; decide) (by rw [c_140_3]; rfl) (by decide) ?_
            refine aw_aload_n C 5 xd_N_work_235 rfl rfl ?_
            refine aw_aload_n C 6 xd_N_work_236 rfl rfl ?_
            refine aw_iload_n C 7 xd_N_work_237 rfl rfl ?_
            refine aw_iload_n C 8 xd_N_work_238 rfl rfl ?_
            refine aw_iload C 0 xd_N_work_239 rfl ?_
            obtain ⟨q_241, e_241, hm⟩ := aw_bnd hm
            refine aw_callVi (As := [.ref (ad k1), .int a2, .int a3, .int (s_109 ((((k1 + 1 + 2 + 11 * (Int32.toNatClampNeg (σ (k0 + 1 + 1 + (Int32.toNatClampNeg a2)) 0))) + 1) + 3) + 5) (Int32.toNatClampNeg q_96))]) (rest := []) (b := ad k0) C (xc_N_assign W dw hW s_109 k0 k1 a2 a3 (s_109 ((((k1 + 1 + 2 + 11 * (Int32.toNatClampNeg (σ (k0 + 1 + 1 + (Int32.toNatClampNeg a2)) 0))) + 1) + 3) + 5) (Int32.toNatClampNeg q_96)) _ hk0 hk1 e_241) rfl (gw_sub (gw_V xg_N_assign ml_N_92 im_N_assign se_N_assign wi_N)) na_N_assign (rm_lt (by omega) (by decide)) ⟨Nat.zero_le _, Nat.zero_le _⟩ k0 (at_N hk0) rfl rfl (Nat.le_of_ble_eq_true rfl) xd_N_work_241 ?_
            cases hm
            exact aw_iret C xd_N_work_244
          rw [if_neg c_140_3] at hm
          by_cases c_140_4 : s_109 ((((k1 + 1 + 2 + 11 * (Int32.toNatClampNeg (σ (k0 + 1 + 1 + (Int32.toNatClampNeg a2)) 0))) + 1) + 3) + 3) (Int32.toNatClampNeg q_96) = (4 : Int32)
          · rw [if_pos c_140_4] at hm
            refine aw_tabIn (off := 125) (tgt := 265) C xd_N_work_140 (by rw [c_140_4]; decide) (by rw [c_140_4]; decide) (by rw [c_140_4]; rfl) (by decide) ?_
            refine aw_aload_n C 5 xd_N_work_265 rfl rfl ?_
            refine aw_aload_n C 6 xd_N_work_266 rfl rfl ?_
            refine aw_iload_n C 7 xd_N_work_267 rfl rfl ?_
            refine aw_iload_n C 8 xd_N_work_268 rfl rfl ?_
            refine aw_aload C 3 xd_N_work_269 rfl ?_
            refine aw_get C (((k1 + 1 + 2 + 11 * (Int32.toNatClampNeg (σ (k0 + 1 + 1 + (Int32.toNatClampNeg a2)) 0))) + 1) + 3) (kd_lt (kf_U_code (kf_I_unit (ka_I6 (kf_M_images hk1) (aw_in_lt g_17))))) (ly_C (kf_U_code (kf_I_unit (ka_I6 (kf_M_images hk1) (aw_in_lt g_17))))) rfl (fun w h => List.mem_cons_of_mem _ (xi_C w h)) 4 (by decide) rfl (List.mem_cons_of_mem _ fl_N_80) xd_N_work_271 ?_
            refine aw_iload C 2 xd_N_work_274 rfl ?_
            obtain ⟨g_276, hm⟩ := aw_grd hm
            refine aw_iald C ((((k1 + 1 + 2 + 11 * (Int32.toNatClampNeg (σ (k0 + 1 + 1 + (Int32.toNatClampNeg a2)) 0))) + 1) + 3) + 3) (kd_lt (kf_C_ops (kf_U_code (kf_I_unit (ka_I6 (kf_M_images hk1) (aw_in_lt g_17)))))) 0 (ly_A42 (kf_C_ops (kf_U_code (kf_I_unit (ka_I6 (kf_M_images hk1) (aw_in_lt g_17)))))) rfl (aw_in_ok g_276) xd_N_work_276 ?_
            obtain ⟨q_277, e_277, hm⟩ := aw_bnd hm
            refine aw_callVi (As := [.ref (ad k1), .int a2, .int a3, .int (s_109 ((((k1 + 1 + 2 + 11 * (Int32.toNatClampNeg (σ (k0 + 1 + 1 + (Int32.toNatClampNeg a2)) 0))) + 1) + 3) + 3) (Int32.toNatClampNeg q_96))]) (rest := []) (b := ad k0) C (xc_N_combine W dw hW s_109 k0 k1 a2 a3 (s_109 ((((k1 + 1 + 2 + 11 * (Int32.toNatClampNeg (σ (k0 + 1 + 1 + (Int32.toNatClampNeg a2)) 0))) + 1) + 3) + 3) (Int32.toNatClampNeg q_96)) _ hk0 hk1 e_277) rfl (gw_sub (gw_V xg_N_combine ml_N_103 im_N_combine se_N_combine wi_N)) na_N_combine (rm_lt (by omega) (by decide)) ⟨Nat.zero_le _, Nat.zero_le _⟩ k0 (at_N hk0) rfl rfl (Nat.le_of_ble_eq_true rfl) xd_N_work_277 ?_
            cases hm
            exact aw_iret C xd_N_work_280
          rw [if_neg c_140_4] at hm
          by_cases c_140_5 : s_109 ((((k1 + 1 + 2 + 11 * (Int32.toNatClampNeg (σ (k0 + 1 + 1 + (Int32.toNatClampNeg a2)) 0))) + 1) + 3) + 3) (Int32.toNatClampNeg q_96) = (5 : Int32)
          · rw [if_pos c_140_5] at hm
            refine aw_tabIn (off := 125) (tgt := 265) C xd_N_work_140 (by rw [c_140_5]; decide) (by rw [c_140_5]; decide) (by rw [c_140_5]; rfl) (by decide) ?_
            refine aw_aload_n C 5 xd_N_work_265 rfl rfl ?_
            refine aw_aload_n C 6 xd_N_work_266 rfl rfl ?_
            refine aw_iload_n C 7 xd_N_work_267 rfl rfl ?_
            refine aw_iload_n C 8 xd_N_work_268 rfl rfl ?_
            refine aw_aload C 3 xd_N_work_269 rfl ?_
            refine aw_get C (((k1 + 1 + 2 + 11 * (Int32.toNatClampNeg (σ (k0 + 1 + 1 + (Int32.toNatClampNeg a2)) 0))) + 1) + 3) (kd_lt (kf_U_code (kf_I_unit (ka_I6 (kf_M_images hk1) (aw_in_lt g_17))))) (ly_C (kf_U_code (kf_I_unit (ka_I6 (kf_M_images hk1) (aw_in_lt g_17))))) rfl (fun w h => List.mem_cons_of_mem _ (xi_C w h)) 4 (by decide) rfl (List.mem_cons_of_mem _ fl_N_80) xd_N_work_271 ?_
            refine aw_iload C 2 xd_N_work_274 rfl ?_
            obtain ⟨g_276, hm⟩ := aw_grd hm
            refine aw_iald C ((((k1 + 1 + 2 + 11 * (Int32.toNatClampNeg (σ (k0 + 1 + 1 + (Int32.toNatClampNeg a2)) 0))) + 1) + 3) + 3) (kd_lt (kf_C_ops (kf_U_code (kf_I_unit (ka_I6 (kf_M_images hk1) (aw_in_lt g_17)))))) 0 (ly_A42 (kf_C_ops (kf_U_code (kf_I_unit (ka_I6 (kf_M_images hk1) (aw_in_lt g_17)))))) rfl (aw_in_ok g_276) xd_N_work_276 ?_
            obtain ⟨q_277, e_277, hm⟩ := aw_bnd hm
            refine aw_callVi (As := [.ref (ad k1), .int a2, .int a3, .int (s_109 ((((k1 + 1 + 2 + 11 * (Int32.toNatClampNeg (σ (k0 + 1 + 1 + (Int32.toNatClampNeg a2)) 0))) + 1) + 3) + 3) (Int32.toNatClampNeg q_96))]) (rest := []) (b := ad k0) C (xc_N_combine W dw hW s_109 k0 k1 a2 a3 (s_109 ((((k1 + 1 + 2 + 11 * (Int32.toNatClampNeg (σ (k0 + 1 + 1 + (Int32.toNatClampNeg a2)) 0))) + 1) + 3) + 3) (Int32.toNatClampNeg q_96)) _ hk0 hk1 e_277) rfl (gw_sub (gw_V xg_N_combine ml_N_103 im_N_combine se_N_combine wi_N)) na_N_combine (rm_lt (by omega) (by decide)) ⟨Nat.zero_le _, Nat.zero_le _⟩ k0 (at_N hk0) rfl rfl (Nat.le_of_ble_eq_true rfl) xd_N_work_277 ?_
            cases hm
            exact aw_iret C xd_N_work_280
          rw [if_neg c_140_5] at hm
          by_cases c_140_6 : s_109 ((((k1 + 1 + 2 + 11 * (Int32.toNatClampNeg (σ (k0 + 1 + 1 + (Int32.toNatClampNeg a2)) 0))) + 1) + 3) + 3) (Int32.toNatClampNeg q_96) = (6 : Int32)
          · rw [if_pos c_140_6] at hm
            refine aw_tabIn (off := 125) (tgt := 265) C xd_N_work_140 (by rw [c_140_6]; decide) (by rw [c_140_6]; decide) (by rw [c_140_6]; rfl) (by decide) ?_
            refine aw_aload_n C 5 xd_N_work_265 rfl rfl ?_
            refine aw_aload_n C 6 xd_N_work_266 rfl rfl ?_
            refine aw_iload_n C 7 xd_N_work_267 rfl rfl ?_
            refine aw_iload_n C 8 xd_N_work_268 rfl rfl ?_
            refine aw_aload C 3 xd_N_work_269 rfl ?_
            refine aw_get C (((k1 + 1 + 2 + 11 * (Int32.toNatClampNeg (σ (k0 + 1 + 1 + (Int32.toNatClampNeg a2)) 0))) + 1) + 3) (kd_lt (kf_U_code (kf_I_unit (ka_I6 (kf_M_images hk1) (aw_in_lt g_17))))) (ly_C (kf_U_code (kf_I_unit (ka_I6 (kf_M_images hk1) (aw_in_lt g_17))))) rfl (fun w h => List.mem_cons_of_mem _ (xi_C w h)) 4 (by decide) rfl (List.mem_cons_of_mem _ fl_N_80) xd_N_work_271 ?_
            refine aw_iload C 2 xd_N_work_274 rfl ?_
            obtain ⟨g_276, hm⟩ := aw_grd hm
            refine aw_iald C ((((k1 + 1 + 2 + 11 * (Int32.toNatClampNeg (σ (k0 + 1 + 1 + (Int32.toNatClampNeg a2)) 0))) + 1) + 3) + 3) (kd_lt (kf_C_ops (kf_U_code (kf_I_unit (ka_I6 (kf_M_images hk1) (aw_in_lt g_17)))))) 0 (ly_A42 (kf_C_ops (kf_U_code (kf_I_unit (ka_I6 (kf_M_images hk1) (aw_in_lt g_17)))))) rfl (aw_in_ok g_276) xd_N_work_276 ?_
            obtain ⟨q_277, e_277, hm⟩ := aw_bnd hm
            refine aw_callVi (As := [.ref (ad k1), .int a2, .int a3, .int (s_109 ((((k1 + 1 + 2 + 11 * (Int32.toNatClampNeg (σ (k0 + 1 + 1 + (Int32.toNatClampNeg a2)) 0))) + 1) + 3) + 3) (Int32.toNatClampNeg q_96))]) (rest := []) (b := ad k0) C (xc_N_combine W dw hW s_109 k0 k1 a2 a3 (s_109 ((((k1 + 1 + 2 + 11 * (Int32.toNatClampNeg (σ (k0 + 1 + 1 + (Int32.toNatClampNeg a2)) 0))) + 1) + 3) + 3) (Int32.toNatClampNeg q_96)) _ hk0 hk1 e_277) rfl (gw_sub (gw_V xg_N_combine ml_N_103 im_N_combine se_N_combine wi_N)) na_N_combine (rm_lt (by omega) (by decide)) ⟨Nat.zero_le _, Nat.zero_le _⟩ k0 (at_N hk0) rfl rfl (Nat.le_of_ble_eq_true rfl) xd_N_work_277 ?_
            cases hm
            exact aw_iret C xd_N_work_280
          rw [if_neg c_140_6] at hm
          by_cases c_140_7 : s_109 ((((k1 + 1 + 2 + 11 * (Int32.toNatClampNeg (σ (k0 + 1 + 1 + (Int32.toNatClampNeg a2)) 0))) + 1) + 3) + 3) (Int32.toNatClampNeg q_96) = (7 : Int32)
          · rw [if_pos c_140_7] at hm
            refine aw_tabIn (off := 125) (tgt := 265) C xd_N_work_140 (by rw [c_140_7]; decide) (by rw [c_140_7]; decide) (by rw [c_140_7]; rfl) (by decide) ?_
            refine aw_aload_n C 5 xd_N_work_265 rfl rfl ?_
            refine aw_aload_n C 6 xd_N_work_266 rfl rfl ?_
            refine aw_iload_n C 7 xd_N_work_267 rfl rfl ?_
            refine aw_iload_n C 8 xd_N_work_268 rfl rfl ?_
            refine aw_aload C 3 xd_N_work_269 rfl ?_
            refine aw_get C (((k1 + 1 + 2 + 11 * (Int32.toNatClampNeg (σ (k0 + 1 + 1 + (Int32.toNatClampNeg a2)) 0))) + 1) + 3) (kd_lt (kf_U_code (kf_I_unit (ka_I6 (kf_M_images hk1) (aw_in_lt g_17))))) (ly_C (kf_U_code (kf_I_unit (ka_I6 (kf_M_images hk1) (aw_in_lt g_17))))) rfl (fun w h => List.mem_cons_of_mem _ (xi_C w h)) 4 (by decide) rfl (List.mem_cons_of_mem _ fl_N_80) xd_N_work_271 ?_
            refine aw_iload C 2 xd_N_work_274 rfl ?_
            obtain ⟨g_276, hm⟩ := aw_grd hm
            refine aw_iald C ((((k1 + 1 + 2 + 11 * (Int32.toNatClampNeg (σ (k0 + 1 + 1 + (Int32.toNatClampNeg a2)) 0))) + 1) + 3) + 3) (kd_lt (kf_C_ops (kf_U_code (kf_I_unit (ka_I6 (kf_M_images hk1) (aw_in_lt g_17)))))) 0 (ly_A42 (kf_C_ops (kf_U_code (kf_I_unit (ka_I6 (kf_M_images hk1) (aw_in_lt g_17)))))) rfl (aw_in_ok g_276) xd_N_work_276 ?_
            obtain ⟨q_277, e_277, hm⟩ := aw_bnd hm
            refine aw_callVi (As := [.ref (ad k1), .int a2, .int a3, .int (s_109 ((((k1 + 1 + 2 + 11 * (Int32.toNatClampNeg (σ (k0 + 1 + 1 + (Int32.toNatClampNeg a2)) 0))) + 1) + 3) + 3) (Int32.toNatClampNeg q_96))]) (rest := []) (b := ad k0) C (xc_N_combine W dw hW s_109 k0 k1 a2 a3 (s_109 ((((k1 + 1 + 2 + 11 * (Int32.toNatClampNeg (σ (k0 + 1 + 1 + (Int32.toNatClampNeg a2)) 0))) + 1) + 3) + 3) (Int32.toNatClampNeg q_96)) _ hk0 hk1 e_277) rfl (gw_sub (gw_V xg_N_combine ml_N_103 im_N_combine se_N_combine wi_N)) na_N_combine (rm_lt (by omega) (by decide)) ⟨Nat.zero_le _, Nat.zero_le _⟩ k0 (at_N hk0) rfl rfl (Nat.le_of_ble_eq_true rfl) xd_N_work_277 ?_
            cases hm
            exact aw_iret C xd_N_work_280
          rw [if_neg c_140_7] at hm
          by_cases c_140_8 : s_109 ((((k1 + 1 + 2 + 11 * (Int32.toNatClampNeg (σ (k0 + 1 + 1 + (Int32.toNatClampNeg a2)) 0))) + 1) + 3) + 3) (Int32.toNatClampNeg q_96) = (8 : Int32)
          · rw [if_pos c_140_8] at hm
            refine aw_tabIn (off := 125) (tgt := 265) C xd_N_work_140 (by rw [c_140_8]; decide) (by rw [c_140_8]; decide) (by rw [c_140_8]; rfl) (by decide) ?_
            refine aw_aload_n C 5 xd_N_work_265 rfl rfl ?_
            refine aw_aload_n C 6 xd_N_work_266 rfl rfl ?_
            refine aw_iload_n C 7 xd_N_work_267 rfl rfl ?_
            refine aw_iload_n C 8 xd_N_work_268 rfl rfl ?_
            refine aw_aload C 3 xd_N_work_269 rfl ?_
            refine aw_get C (((k1 + 1 + 2 + 11 * (Int32.toNatClampNeg (σ (k0 + 1 + 1 + (Int32.toNatClampNeg a2)) 0))) + 1) + 3) (kd_lt (kf_U_code (kf_I_unit (ka_I6 (kf_M_images hk1) (aw_in_lt g_17))))) (ly_C (kf_U_code (kf_I_unit (ka_I6 (kf_M_images hk1) (aw_in_lt g_17))))) rfl (fun w h => List.mem_cons_of_mem _ (xi_C w h)) 4 (by decide) rfl (List.mem_cons_of_mem _ fl_N_80) xd_N_work_271 ?_
            refine aw_iload C 2 xd_N_work_274 rfl ?_
            obtain ⟨g_276, hm⟩ := aw_grd hm
            refine aw_iald C ((((k1 + 1 + 2 + 11 * (Int32.toNatClampNeg (σ (k0 + 1 + 1 + (Int32.toNatClampNeg a2)) 0))) + 1) + 3) + 3) (kd_lt (kf_C_ops (kf_U_code (kf_I_unit (ka_I6 (kf_M_images hk1) (aw_in_lt g_17)))))) 0 (ly_A42 (kf_C_ops (kf_U_code (kf_I_unit (ka_I6 (kf_M_images hk1) (aw_in_lt g_17)))))) rfl (aw_in_ok g_276) xd_N_work_276 ?_
            obtain ⟨q_277, e_277, hm⟩ := aw_bnd hm
            refine aw_callVi (As := [.ref (ad k1), .int a2, .int a3, .int (s_109 ((((k1 + 1 + 2 + 11 * (Int32.toNatClampNeg (σ (k0 + 1 + 1 + (Int32.toNatClampNeg a2)) 0))) + 1) + 3) + 3) (Int32.toNatClampNeg q_96))]) (rest := []) (b := ad k0) C (xc_N_combine W dw hW s_109 k0 k1 a2 a3 (s_109 ((((k1 + 1 + 2 + 11 * (Int32.toNatClampNeg (σ (k0 + 1 + 1 + (Int32.toNatClampNeg a2)) 0))) + 1) + 3) + 3) (Int32.toNatClampNeg q_96)) _ hk0 hk1 e_277) rfl (gw_sub (gw_V xg_N_combine ml_N_103 im_N_combine se_N_combine wi_N)) na_N_combine (rm_lt (by omega) (by decide)) ⟨Nat.zero_le _, Nat.zero_le _⟩ k0 (at_N hk0) rfl rfl (Nat.le_of_ble_eq_true rfl) xd_N_work_277 ?_
            cases hm
            exact aw_iret C xd_N_work_280
          rw [if_neg c_140_8] at hm
          by_cases c_140_9 : s_109 ((((k1 + 1 + 2 + 11 * (Int32.toNatClampNeg (σ (k0 + 1 + 1 + (Int32.toNatClampNeg a2)) 0))) + 1) + 3) + 3) (Int32.toNatClampNeg q_96) = (9 : Int32)
          · rw [if_pos c_140_9] at hm
            refine aw_tabIn (off := 105) (tgt := 245) C xd_N_work_140 (by rw [c_140_9]; decide) (by rw [c_140_9]; decide) (by rw [c_140_9]; rfl) (by decide) ?_
            refine aw_aload_n C 5 xd_N_work_245 rfl rfl ?_
            refine aw_aload_n C 6 xd_N_work_246 rfl rfl ?_
            refine aw_iload_n C 7 xd_N_work_247 rfl rfl ?_
            refine aw_iload_n C 8 xd_N_work_248 rfl rfl ?_
            obtain ⟨q_249, e_249, hm⟩ := aw_bnd hm
            refine aw_callVi (As := [.ref (ad k1), .int a2, .int a3]) (rest := []) (b := ad k0) C (xc_N_choose W dw hW s_109 k0 k1 a2 a3 _ hk0 hk1 e_249) rfl (gw_sub (gw_V xg_N_choose ml_N_96 im_N_choose se_N_choose wi_N)) na_N_choose (rm_lt (by omega) (by decide)) ⟨Nat.zero_le _, Nat.zero_le _⟩ k0 (at_N hk0) rfl rfl (Nat.le_of_ble_eq_true rfl) xd_N_work_249 ?_
            cases hm
            exact aw_iret C xd_N_work_252
          rw [if_neg c_140_9] at hm
          by_cases c_140_10 : s_109 ((((k1 + 1 + 2 + 11 * (Int32.toNatClampNeg (σ (k0 + 1 + 1 + (Int32.toNatClampNeg a2)) 0))) + 1) + 3) + 3) (Int32.toNatClampNeg q_96) = (10 : Int32)
          · rw [if_pos c_140_10] at hm
            refine aw_tabIn (off := 125) (tgt := 265) C xd_N_work_140 (by rw [c_140_10]; decide) (by rw [c_140_10]; decide) (by rw [c_140_10]; rfl) (by decide) ?_
            refine aw_aload_n C 5 xd_N_work_265 rfl rfl ?_
            refine aw_aload_n C 6 xd_N_work_266 rfl rfl ?_
            refine aw_iload_n C 7 xd_N_work_267 rfl rfl ?_
            refine aw_iload_n C 8 xd_N_work_268 rfl rfl ?_
            refine aw_aload C 3 xd_N_work_269 rfl ?_
            refine aw_get C (((k1 + 1 + 2 + 11 * (Int32.toNatClampNeg (σ (k0 + 1 + 1 + (Int32.toNatClampNeg a2)) 0))) + 1) + 3) (kd_lt (kf_U_code (kf_I_unit (ka_I6 (kf_M_images hk1) (aw_in_lt g_17))))) (ly_C (kf_U_code (kf_I_unit (ka_I6 (kf_M_images hk1) (aw_in_lt g_17))))) rfl (fun w h => List.mem_cons_of_mem _ (xi_C w h)) 4 (by decide) rfl (List.mem_cons_of_mem _ fl_N_80) xd_N_work_271 ?_
            refine aw_iload C 2 xd_N_work_274 rfl ?_
            obtain ⟨g_276, hm⟩ := aw_grd hm
            refine aw_iald C ((((k1 + 1 + 2 + 11 * (Int32.toNatClampNeg (σ (k0 + 1 + 1 + (Int32.toNatClampNeg a2)) 0))) + 1) + 3) + 3) (kd_lt (kf_C_ops (kf_U_code (kf_I_unit (ka_I6 (kf_M_images hk1) (aw_in_lt g_17)))))) 0 (ly_A42 (kf_C_ops (kf_U_code (kf_I_unit (ka_I6 (kf_M_images hk1) (aw_in_lt g_17)))))) rfl (aw_in_ok g_276) xd_N_work_276 ?_
            obtain ⟨q_277, e_277, hm⟩ := aw_bnd hm
            refine aw_callVi (As := [.ref (ad k1), .int a2, .int a3, .int (s_109 ((((k1 + 1 + 2 + 11 * (Int32.toNatClampNeg (σ (k0 + 1 + 1 + (Int32.toNatClampNeg a2)) 0))) + 1) + 3) + 3) (Int32.toNatClampNeg q_96))]) (rest := []) (b := ad k0) C (xc_N_combine W dw hW s_109 k0 k1 a2 a3 (s_109 ((((k1 + 1 + 2 + 11 * (Int32.toNatClampNeg (σ (k0 + 1 + 1 + (Int32.toNatClampNeg a2)) 0))) + 1) + 3) + 3) (Int32.toNatClampNeg q_96)) _ hk0 hk1 e_277) rfl (gw_sub (gw_V xg_N_combine ml_N_103 im_N_combine se_N_combine wi_N)) na_N_combine (rm_lt (by omega) (by decide)) ⟨Nat.zero_le _, Nat.zero_le _⟩ k0 (at_N hk0) rfl rfl (Nat.le_of_ble_eq_true rfl) xd_N_work_277 ?_
            cases hm
            exact aw_iret C xd_N_work_280
          rw [if_neg c_140_10] at hm
          by_cases c_140_11 : s_109 ((((k1 + 1 + 2 + 11 * (Int32.toNatClampNeg (σ (k0 + 1 + 1 + (Int32.toNatClampNeg a2)) 0))) + 1) + 3) + 3) (Int32.toNatClampNeg q_96) = (11 : Int32)
          · rw [if_pos c_140_11] at hm
            refine aw_tabIn (off := 113) (tgt := 253) C xd_N_work_140 (by rw [c_140_11]; decide) (by rw [c_140_11]; decide) (by rw [c_140_11]; rfl) (by decide) ?_
            refine aw_aload_n C 5 xd_N_work_253 rfl rfl ?_
            refine aw_aload_n C 6 xd_N_work_254 rfl rfl ?_
            refine aw_iload_n C 7 xd_N_work_255 rfl rfl ?_
            refine aw_iload_n C 8 xd_N_work_256 rfl rfl ?_
            refine aw_iload C 1 xd_N_work_257 rfl ?_
            refine aw_iload C 0 xd_N_work_259 rfl ?_
            obtain ⟨q_261, e_261, hm⟩ := aw_bnd hm
            refine aw_callVi (As := [.ref (ad k1), .int a2, .int a3, .int (s_109 ((((k1 + 1 + 2 + 11 * (Int32.toNatClampNeg (σ (k0 + 1 + 1 + (Int32.toNatClampNeg a2)) 0))) + 1) + 3) + 4) (Int32.toNatClampNeg q_96)), .int (s_109 ((((k1 + 1 + 2 + 11 * (Int32.toNatClampNeg (σ (k0 + 1 + 1 + (Int32.toNatClampNeg a2)) 0))) + 1) + 3) + 5) (Int32.toNatClampNeg q_96))]) (rest := []) (b := ad k0) C (xc_N_enter W dw hW s_109 k0 k1 a2 a3 (s_109 ((((k1 + 1 + 2 + 11 * (Int32.toNatClampNeg (σ (k0 + 1 + 1 + (Int32.toNatClampNeg a2)) 0))) + 1) + 3) + 4) (Int32.toNatClampNeg q_96)) (s_109 ((((k1 + 1 + 2 + 11 * (Int32.toNatClampNeg (σ (k0 + 1 + 1 + (Int32.toNatClampNeg a2)) 0))) + 1) + 3) + 5) (Int32.toNatClampNeg q_96)) _ hk0 hk1 e_261) rfl (gw_sub (gw_V xg_N_enter ml_N_99 im_N_enter se_N_enter wi_N)) na_N_enter (rm_lt (by omega) (by decide)) ⟨Nat.zero_le _, Nat.zero_le _⟩ k0 (at_N hk0) rfl rfl (Nat.le_of_ble_eq_true rfl) xd_N_work_261 ?_
            cases hm
            exact aw_iret C xd_N_work_264
          rw [if_neg c_140_11] at hm
          have t_140_0 := lv_neT c_140_0 (a := 0) (by decide)
          have t_140_1 := lv_neT c_140_1 (a := 1) (by decide)
          have t_140_2 := lv_neT c_140_2 (a := 2) (by decide)
          have t_140_3 := lv_neT c_140_3 (a := 3) (by decide)
          have t_140_4 := lv_neT c_140_4 (a := 4) (by decide)
          have t_140_5 := lv_neT c_140_5 (a := 5) (by decide)
          have t_140_6 := lv_neT c_140_6 (a := 6) (by decide)
          have t_140_7 := lv_neT c_140_7 (a := 7) (by decide)
          have t_140_8 := lv_neT c_140_8 (a := 8) (by decide)
          have t_140_9 := lv_neT c_140_9 (a := 9) (by decide)
          have t_140_10 := lv_neT c_140_10 (a := 10) (by decide)
          have t_140_11 := lv_neT c_140_11 (a := 11) (by decide)
          refine aw_tabOut (tgt := 265) C xd_N_work_140 (by omega) (by decide) ?_
          refine aw_aload_n C 5 xd_N_work_265 rfl rfl ?_
          refine aw_aload_n C 6 xd_N_work_266 rfl rfl ?_
          refine aw_iload_n C 7 xd_N_work_267 rfl rfl ?_
          refine aw_iload_n C 8 xd_N_work_268 rfl rfl ?_
          refine aw_aload C 3 xd_N_work_269 rfl ?_
          refine aw_get C (((k1 + 1 + 2 + 11 * (Int32.toNatClampNeg (σ (k0 + 1 + 1 + (Int32.toNatClampNeg a2)) 0))) + 1) + 3) (kd_lt (kf_U_code (kf_I_unit (ka_I6 (kf_M_images hk1) (aw_in_lt g_17))))) (ly_C (kf_U_code (kf_I_unit (ka_I6 (kf_M_images hk1) (aw_in_lt g_17))))) rfl (fun w h => List.mem_cons_of_mem _ (xi_C w h)) 4 (by decide) rfl (List.mem_cons_of_mem _ fl_N_80) xd_N_work_271 ?_
          refine aw_iload C 2 xd_N_work_274 rfl ?_
          obtain ⟨g_276, hm⟩ := aw_grd hm
          refine aw_iald C ((((k1 + 1 + 2 + 11 * (Int32.toNatClampNeg (σ (k0 + 1 + 1 + (Int32.toNatClampNeg a2)) 0))) + 1) + 3) + 3) (kd_lt (kf_C_ops (kf_U_code (kf_I_unit (ka_I6 (kf_M_images hk1) (aw_in_lt g_17)))))) 0 (ly_A42 (kf_C_ops (kf_U_code (kf_I_unit (ka_I6 (kf_M_images hk1) (aw_in_lt g_17)))))) rfl (aw_in_ok g_276) xd_N_work_276 ?_
          obtain ⟨q_277, e_277, hm⟩ := aw_bnd hm
          refine aw_callVi (As := [.ref (ad k1), .int a2, .int a3, .int (s_109 ((((k1 + 1 + 2 + 11 * (Int32.toNatClampNeg (σ (k0 + 1 + 1 + (Int32.toNatClampNeg a2)) 0))) + 1) + 3) + 3) (Int32.toNatClampNeg q_96))]) (rest := []) (b := ad k0) C (xc_N_combine W dw hW s_109 k0 k1 a2 a3 (s_109 ((((k1 + 1 + 2 + 11 * (Int32.toNatClampNeg (σ (k0 + 1 + 1 + (Int32.toNatClampNeg a2)) 0))) + 1) + 3) + 3) (Int32.toNatClampNeg q_96)) _ hk0 hk1 e_277) rfl (gw_sub (gw_V xg_N_combine ml_N_103 im_N_combine se_N_combine wi_N)) na_N_combine (rm_lt (by omega) (by decide)) ⟨Nat.zero_le _, Nat.zero_le _⟩ k0 (at_N hk0) rfl rfl (Nat.le_of_ble_eq_true rfl) xd_N_work_277 ?_
          cases hm
          exact aw_iret C xd_N_work_280
        · rw [if_neg c_64] at hm
          refine aw_aload_n C 2 xd_N_work_67 rfl rfl ?_
          refine aw_bipush (v := (-10 : Int32)) C xd_N_work_68 (by decide) ?_
          obtain ⟨q_70, e_70, hm⟩ := aw_bnd hm
          refine aw_callVi (As := [.int (-10 : Int32)]) (rest := []) (b := ad k0) C (xc_N_fail σ k0 (-10 : Int32) _ hk0 e_70) rfl (gw_sub (gw_V xg_N_fail ml_N_66 im_N_fail se_N_fail wi_N)) na_N_fail (rm_lt (by omega) (by decide)) ⟨Nat.zero_le _, Nat.zero_le _⟩ k0 (at_N hk0) rfl rfl (Nat.le_of_ble_eq_true rfl) xd_N_work_70 ?_
          cases hm
          exact aw_iret C xd_N_work_73
      · rw [if_neg c_53] at hm
        refine aw_iconst (v := (0 : Int32)) C xd_N_work_56 (by decide) ?_
        cases hm
        exact aw_iret C xd_N_work_57
theorem xc_N_work (d : Nat) : ∀ (σ : aw_m) (k0 : Nat) (k1 : Nat) (a2 : Int32) (a3 : Int32) (q : Int32 × aw_m) (hk0 : kd_k k0 = 12) (hk1 : kd_k k1 = 8), xm_N_work d σ k0 k1 a2 a3 = some q → aw_M l D (ty_z ids) (zs_T ps) xy_N_work (xw_N_work :: gw_l) (rm_D (5 * d)) [.ref (ad k0), .ref (ad k1), .int a2, .int a3] (cw_w ad ids σ) (some (.int q.1)) (cw_w ad ids q.2) := by
  induction d with
  | zero => intro σ k0 k1 a2 a3 q hk0 hk1 hm; cases hm
  | succ d ih =>
    intro σ k0 k1 a2 a3 q hk0 hk1 hm
    have h := xc_N_work_b (xm_N_work d) (5 * d) ih σ k0 k1 a2 a3 q hk0 hk1 hm
    exact h
def xm_N_start (σ : aw_m) (k0 : Nat) (k1 : Nat) (a2 : Int32) (a3 : Int32) (a4 : Int32) (a5 : Int32) : Option (Int32 × aw_m) := aw_l (aw_p σ k0 1 (0 : Int32)) fun s_2 => aw_l (aw_p s_2 k0 2 (0 : Int32)) fun s_7 => (xm_F_open s_7 (k0 + 1 + 1 + (Int32.toNatClampNeg (0 : Int32))) a2 a3 a4 a5).bind fun q_22 => (xm_N_work 40 q_22 k0 k1 (0 : Int32) (0 : Int32)).bind fun q_29 => some (q_29.1, q_29.2)
set_option maxHeartbeats 4000000 in
set_option maxRecDepth 100000 in
theorem xc_N_start (σ : aw_m) (k0 : Nat) (k1 : Nat) (a2 : Int32) (a3 : Int32) (a4 : Int32) (a5 : Int32) (q : Int32 × aw_m) (hk0 : kd_k k0 = 12) (hk1 : kd_k k1 = 8) (hm : xm_N_start σ k0 k1 a2 a3 a4 a5 = some q) : aw_M l D (ty_z ids) (zs_T ps) xy_N_start (xw_N_start :: gw_l) (rm_D (201)) [.ref (ad k0), .ref (ad k1), .int a2, .int a3, .int a4, .int a5] (cw_w ad ids σ) (some (.int q.1)) (cw_w ad ids q.2) := by
  refine aw_intro (cc := xb_N_start) (n := 6) (ret := (some .int)) "ModuleShelf$Machine" rfl (by decide) rfl (Nat.le_of_ble_eq_true rfl) ?_
  intro κ C
  unfold xm_N_start at hm
  refine aw_aload_n C 0 xd_N_start_0 rfl rfl ?_
  refine aw_iconst (v := (0 : Int32)) C xd_N_start_1 (by decide) ?_
  obtain ⟨s_2, h_2, hm⟩ := aw_let hm
  refine aw_put (σ1 := s_2) (f := upd (σ k0) 1 (0 : Int32)) C k0 (kd_lt hk0) (ly_N hk0) rfl (fun w h => List.mem_cons_of_mem _ (xi_N w h)) xk_N xo_N xn_N 1 (by decide) (List.mem_cons_of_mem _ fl_N_18) rfl (ty := .int) (by decide +kernel) rfl rfl (Nat.le_of_ble_eq_true rfl) (ly_N hk0) h_2 xd_N_start_2 ?_
  refine aw_aload_n C 0 xd_N_start_5 rfl rfl ?_
  refine aw_iconst (v := (0 : Int32)) C xd_N_start_6 (by decide) ?_
  obtain ⟨s_7, h_7, hm⟩ := aw_let hm
  refine aw_put (σ1 := s_7) (f := upd (s_2 k0) 2 (0 : Int32)) C k0 (kd_lt hk0) (ly_N hk0) rfl (fun w h => List.mem_cons_of_mem _ (xi_N w h)) xk_N xo_N xn_N 2 (by decide) (List.mem_cons_of_mem _ fl_N_22) rfl (ty := .int) (by decide +kernel) rfl rfl (Nat.le_of_ble_eq_true rfl) (ly_N hk0) h_7 xd_N_start_7 ?_
  refine aw_aload_n C 0 xd_N_start_10 rfl rfl ?_
  refine aw_get C k0 (kd_lt hk0) (ly_N hk0) rfl (fun w h => List.mem_cons_of_mem _ (xi_N w h)) 0 (by decide) rfl (List.mem_cons_of_mem _ fl_N_11) xd_N_start_11 ?_
  refine aw_iconst (v := (0 : Int32)) C xd_N_start_14 (by decide) ?_
  refine aw_aald C (k0 + 1) (kd_lt (kf_N_frames hk0)) 4 (ly_F6 (kf_N_frames hk0)) rfl (aw_in_ok (rfl : aw_in (0 : Int32) 6 = true)) (if_pos (aw_in_lt (rfl : aw_in (0 : Int32) 6 = true))) xd_N_start_15 ?_
  refine aw_iload_n C 2 xd_N_start_16 rfl rfl ?_
  refine aw_iload_n C 3 xd_N_start_17 rfl rfl ?_
  refine aw_iload C 4 xd_N_start_18 rfl ?_
  refine aw_iload C 5 xd_N_start_20 rfl ?_
  obtain ⟨q_22, e_22, hm⟩ := aw_bnd hm
  refine aw_callVv (As := [.int a2, .int a3, .int a4, .int a5]) (rest := []) (b := ad (k0 + 1 + 1 + (Int32.toNatClampNeg (0 : Int32)))) C (xc_F_open s_7 (k0 + 1 + 1 + (Int32.toNatClampNeg (0 : Int32))) a2 a3 a4 a5 _ (ka_F6 (kf_N_frames hk0) (aw_in_lt (rfl : aw_in (0 : Int32) 6 = true))) e_22) rfl (gw_sub (gw_V xg_F_open ml_N_25 im_F_open se_F_open wi_F)) na_F_open (rm_lt (by decide) (by decide)) ⟨Nat.zero_le _, Nat.zero_le _⟩ (k0 + 1 + 1 + (Int32.toNatClampNeg (0 : Int32))) (at_F (ka_F6 (kf_N_frames hk0) (aw_in_lt (rfl : aw_in (0 : Int32) 6 = true)))) rfl rfl (Nat.le_of_ble_eq_true rfl) xd_N_start_22 ?_
  refine aw_aload_n C 0 xd_N_start_25 rfl rfl ?_
  refine aw_aload_n C 1 xd_N_start_26 rfl rfl ?_
  refine aw_iconst (v := (0 : Int32)) C xd_N_start_27 (by decide) ?_
  refine aw_iconst (v := (0 : Int32)) C xd_N_start_28 (by decide) ?_
  obtain ⟨q_29, e_29, hm⟩ := aw_bnd hm
  refine aw_callVi (As := [.ref (ad k1), .int (0 : Int32), .int (0 : Int32)]) (rest := []) (b := ad k0) C (xc_N_work 40 q_22 k0 k1 (0 : Int32) (0 : Int32) _ hk0 hk1 e_29) rfl (gw_sub (gw_V xg_N_work ml_N_29 im_N_work se_N_work wi_N)) na_N_work (rm_lt (by decide) (by decide)) ⟨Nat.zero_le _, Nat.zero_le _⟩ k0 (at_N hk0) rfl rfl (Nat.le_of_ble_eq_true rfl) xd_N_start_29 ?_
  cases hm
  exact aw_iret C xd_N_start_32
end
