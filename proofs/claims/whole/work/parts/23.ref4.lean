theorem xd_R_push_0 : decode xb_R_push 0 = .ok (.aload_n 0, 1) := by decide +kernel
theorem xd_R_push_1 : decode xb_R_push 1 = .ok (.getfield 59, 3) := by decide +kernel
theorem xd_R_push_4 : decode xb_R_push 4 = .ok (.aload_n 0, 1) := by decide +kernel
theorem xd_R_push_5 : decode xb_R_push 5 = .ok (.getfield 124, 3) := by decide +kernel
theorem xd_R_push_8 : decode xb_R_push 8 = .ok (.iload_n 1, 1) := by decide +kernel
theorem xd_R_push_9 : decode xb_R_push 9 = .ok (.iastore, 1) := by decide +kernel
theorem xd_R_push_10 : decode xb_R_push 10 = .ok (.aload_n 0, 1) := by decide +kernel
theorem xd_R_push_11 : decode xb_R_push 11 = .ok (.getfield 62, 3) := by decide +kernel
theorem xd_R_push_14 : decode xb_R_push 14 = .ok (.aload_n 0, 1) := by decide +kernel
theorem xd_R_push_15 : decode xb_R_push 15 = .ok (.getfield 124, 3) := by decide +kernel
theorem xd_R_push_18 : decode xb_R_push 18 = .ok (.iload_n 2, 1) := by decide +kernel
theorem xd_R_push_19 : decode xb_R_push 19 = .ok (.iastore, 1) := by decide +kernel
theorem xd_R_push_20 : decode xb_R_push 20 = .ok (.aload_n 0, 1) := by decide +kernel
theorem xd_R_push_21 : decode xb_R_push 21 = .ok (.getfield 65, 3) := by decide +kernel
theorem xd_R_push_24 : decode xb_R_push 24 = .ok (.aload_n 0, 1) := by decide +kernel
theorem xd_R_push_25 : decode xb_R_push 25 = .ok (.getfield 124, 3) := by decide +kernel
theorem xd_R_push_28 : decode xb_R_push 28 = .ok (.iload_n 3, 1) := by decide +kernel
theorem xd_R_push_29 : decode xb_R_push 29 = .ok (.iastore, 1) := by decide +kernel
theorem xd_R_push_30 : decode xb_R_push 30 = .ok (.aload_n 0, 1) := by decide +kernel
theorem xd_R_push_31 : decode xb_R_push 31 = .ok (.dup, 1) := by decide +kernel
theorem xd_R_push_32 : decode xb_R_push 32 = .ok (.getfield 124, 3) := by decide +kernel
theorem xd_R_push_35 : decode xb_R_push 35 = .ok (.iconst 1, 1) := by decide +kernel
theorem xd_R_push_36 : decode xb_R_push 36 = .ok (.iadd, 1) := by decide +kernel
theorem xd_R_push_37 : decode xb_R_push 37 = .ok (.putfield 124, 3) := by decide +kernel
theorem xd_R_push_40 : decode xb_R_push 40 = .ok (.return_, 1) := by decide +kernel
theorem xd_R_give_0 : decode xb_R_give 0 = .ok (.aload_n 0, 1) := by decide +kernel
theorem xd_R_give_1 : decode xb_R_give 1 = .ok (.getfield 68, 3) := by decide +kernel
theorem xd_R_give_4 : decode xb_R_give 4 = .ok (.aload_n 0, 1) := by decide +kernel
theorem xd_R_give_5 : decode xb_R_give 5 = .ok (.getfield 127, 3) := by decide +kernel
theorem xd_R_give_8 : decode xb_R_give 8 = .ok (.iload_n 1, 1) := by decide +kernel
theorem xd_R_give_9 : decode xb_R_give 9 = .ok (.iastore, 1) := by decide +kernel
theorem xd_R_give_10 : decode xb_R_give 10 = .ok (.aload_n 0, 1) := by decide +kernel
theorem xd_R_give_11 : decode xb_R_give 11 = .ok (.dup, 1) := by decide +kernel
theorem xd_R_give_12 : decode xb_R_give 12 = .ok (.getfield 127, 3) := by decide +kernel
theorem xd_R_give_15 : decode xb_R_give 15 = .ok (.iconst 1, 1) := by decide +kernel
theorem xd_R_give_16 : decode xb_R_give 16 = .ok (.iadd, 1) := by decide +kernel
theorem xd_R_give_17 : decode xb_R_give 17 = .ok (.putfield 127, 3) := by decide +kernel
theorem xd_R_give_20 : decode xb_R_give 20 = .ok (.return_, 1) := by decide +kernel
theorem xd_R_take_0 : decode xb_R_take 0 = .ok (.aload_n 0, 1) := by decide +kernel
theorem xd_R_take_1 : decode xb_R_take 1 = .ok (.dup, 1) := by decide +kernel
theorem xd_R_take_2 : decode xb_R_take 2 = .ok (.getfield 127, 3) := by decide +kernel
theorem xd_R_take_5 : decode xb_R_take 5 = .ok (.iconst 1, 1) := by decide +kernel
theorem xd_R_take_6 : decode xb_R_take 6 = .ok (.isub, 1) := by decide +kernel
theorem xd_R_take_7 : decode xb_R_take 7 = .ok (.putfield 127, 3) := by decide +kernel
theorem xd_R_take_10 : decode xb_R_take 10 = .ok (.aload_n 0, 1) := by decide +kernel
theorem xd_R_take_11 : decode xb_R_take 11 = .ok (.getfield 68, 3) := by decide +kernel
theorem xd_R_take_14 : decode xb_R_take 14 = .ok (.aload_n 0, 1) := by decide +kernel
theorem xd_R_take_15 : decode xb_R_take 15 = .ok (.getfield 127, 3) := by decide +kernel
theorem xd_R_take_18 : decode xb_R_take 18 = .ok (.iaload, 1) := by decide +kernel
theorem xd_R_take_19 : decode xb_R_take 19 = .ok (.ireturn, 1) := by decide +kernel
theorem xd_R_parts_0 : decode xb_R_parts 0 = .ok (.aload_n 0, 1) := by decide +kernel
theorem xd_R_parts_1 : decode xb_R_parts 1 = .ok (.getfield 25, 3) := by decide +kernel
theorem xd_R_parts_4 : decode xb_R_parts 4 = .ok (.iload_n 1, 1) := by decide +kernel
theorem xd_R_parts_5 : decode xb_R_parts 5 = .ok (.iaload, 1) := by decide +kernel
theorem xd_R_parts_6 : decode xb_R_parts 6 = .ok (.tableswitch 92 0 11 #[62, 62, 62, 64, 92, 92, 92, 92, 92, 66, 92, 68], 62) := by decide +kernel
theorem xd_R_parts_68 : decode xb_R_parts 68 = .ok (.iconst 0, 1) := by decide +kernel
theorem xd_R_parts_69 : decode xb_R_parts 69 = .ok (.ireturn, 1) := by decide +kernel
theorem xd_R_parts_70 : decode xb_R_parts 70 = .ok (.iconst 1, 1) := by decide +kernel
theorem xd_R_parts_71 : decode xb_R_parts 71 = .ok (.ireturn, 1) := by decide +kernel
theorem xd_R_parts_72 : decode xb_R_parts 72 = .ok (.iconst 3, 1) := by decide +kernel
theorem xd_R_parts_73 : decode xb_R_parts 73 = .ok (.ireturn, 1) := by decide +kernel
theorem xd_R_parts_74 : decode xb_R_parts 74 = .ok (.aload_n 0, 1) := by decide +kernel
theorem xd_R_parts_75 : decode xb_R_parts 75 = .ok (.getfield 19, 3) := by decide +kernel
theorem xd_R_parts_78 : decode xb_R_parts 78 = .ok (.iconst 3, 1) := by decide +kernel
theorem xd_R_parts_79 : decode xb_R_parts 79 = .ok (.bipush 6, 2) := by decide +kernel
theorem xd_R_parts_81 : decode xb_R_parts 81 = .ok (.aload_n 0, 1) := by decide +kernel
theorem xd_R_parts_82 : decode xb_R_parts 82 = .ok (.getfield 28, 3) := by decide +kernel
theorem xd_R_parts_85 : decode xb_R_parts 85 = .ok (.iload_n 1, 1) := by decide +kernel
theorem xd_R_parts_86 : decode xb_R_parts 86 = .ok (.iaload, 1) := by decide +kernel
theorem xd_R_parts_87 : decode xb_R_parts 87 = .ok (.iadd, 1) := by decide +kernel
theorem xd_R_parts_88 : decode xb_R_parts 88 = .ok (.imul, 1) := by decide +kernel
theorem xd_R_parts_89 : decode xb_R_parts 89 = .ok (.aload_n 0, 1) := by decide +kernel
theorem xd_R_parts_90 : decode xb_R_parts 90 = .ok (.getfield 31, 3) := by decide +kernel
theorem xd_R_parts_93 : decode xb_R_parts 93 = .ok (.iload_n 1, 1) := by decide +kernel
theorem xd_R_parts_94 : decode xb_R_parts 94 = .ok (.iaload, 1) := by decide +kernel
theorem xd_R_parts_95 : decode xb_R_parts 95 = .ok (.iadd, 1) := by decide +kernel
theorem xd_R_parts_96 : decode xb_R_parts 96 = .ok (.iaload, 1) := by decide +kernel
theorem xd_R_parts_97 : decode xb_R_parts 97 = .ok (.ireturn, 1) := by decide +kernel
theorem xd_R_parts_98 : decode xb_R_parts 98 = .ok (.iconst 2, 1) := by decide +kernel
theorem xd_R_parts_99 : decode xb_R_parts 99 = .ok (.ireturn, 1) := by decide +kernel
theorem xd_R_end_0 : decode xb_R_end 0 = .ok (.iconst 1, 1) := by decide +kernel
theorem xd_R_end_1 : decode xb_R_end 1 = .ok (.istore_n 2, 1) := by decide +kernel
theorem xd_R_end_2 : decode xb_R_end 2 = .ok (.iload_n 1, 1) := by decide +kernel
theorem xd_R_end_3 : decode xb_R_end 3 = .ok (.istore_n 3, 1) := by decide +kernel
theorem xd_R_end_4 : decode xb_R_end 4 = .ok (.iload_n 2, 1) := by decide +kernel
theorem xd_R_end_5 : decode xb_R_end 5 = .ok (.ifCond .le 19, 3) := by decide +kernel
theorem xd_R_end_8 : decode xb_R_end 8 = .ok (.iload_n 2, 1) := by decide +kernel
theorem xd_R_end_9 : decode xb_R_end 9 = .ok (.aload_n 0, 1) := by decide +kernel
theorem xd_R_end_10 : decode xb_R_end 10 = .ok (.iload_n 3, 1) := by decide +kernel
theorem xd_R_end_11 : decode xb_R_end 11 = .ok (.invokevirtual 130, 3) := by decide +kernel
theorem xd_R_end_14 : decode xb_R_end 14 = .ok (.iconst 1, 1) := by decide +kernel
theorem xd_R_end_15 : decode xb_R_end 15 = .ok (.isub, 1) := by decide +kernel
theorem xd_R_end_16 : decode xb_R_end 16 = .ok (.iadd, 1) := by decide +kernel
theorem xd_R_end_17 : decode xb_R_end 17 = .ok (.istore_n 2, 1) := by decide +kernel
theorem xd_R_end_18 : decode xb_R_end 18 = .ok (.iinc 3 1, 3) := by decide +kernel
theorem xd_R_end_21 : decode xb_R_end 21 = .ok (.goto (-17), 3) := by decide +kernel
theorem xd_R_end_24 : decode xb_R_end 24 = .ok (.iload_n 3, 1) := by decide +kernel
theorem xd_R_end_25 : decode xb_R_end 25 = .ok (.ireturn, 1) := by decide +kernel
theorem xd_R_enter_0 : decode xb_R_enter 0 = .ok (.aload_n 0, 1) := by decide +kernel
theorem xd_R_enter_1 : decode xb_R_enter 1 = .ok (.getfield 71, 3) := by decide +kernel
theorem xd_R_enter_4 : decode xb_R_enter 4 = .ok (.iload_n 1, 1) := by decide +kernel
theorem xd_R_enter_5 : decode xb_R_enter 5 = .ok (.iload_n 2, 1) := by decide +kernel
theorem xd_R_enter_6 : decode xb_R_enter 6 = .ok (.iastore, 1) := by decide +kernel
theorem xd_R_enter_7 : decode xb_R_enter 7 = .ok (.aload_n 0, 1) := by decide +kernel
theorem xd_R_enter_8 : decode xb_R_enter 8 = .ok (.getfield 74, 3) := by decide +kernel
theorem xd_R_enter_11 : decode xb_R_enter 11 = .ok (.iload_n 1, 1) := by decide +kernel
theorem xd_R_enter_12 : decode xb_R_enter 12 = .ok (.iload_n 3, 1) := by decide +kernel
theorem xd_R_enter_13 : decode xb_R_enter 13 = .ok (.iastore, 1) := by decide +kernel
theorem xd_R_enter_14 : decode xb_R_enter 14 = .ok (.aload_n 0, 1) := by decide +kernel
theorem xd_R_enter_15 : decode xb_R_enter 15 = .ok (.getfield 77, 3) := by decide +kernel
theorem xd_R_enter_18 : decode xb_R_enter 18 = .ok (.iload_n 1, 1) := by decide +kernel
theorem xd_R_enter_19 : decode xb_R_enter 19 = .ok (.iload 4, 2) := by decide +kernel
theorem xd_R_enter_21 : decode xb_R_enter 21 = .ok (.iastore, 1) := by decide +kernel
theorem xd_R_enter_22 : decode xb_R_enter 22 = .ok (.aload_n 0, 1) := by decide +kernel
theorem xd_R_enter_23 : decode xb_R_enter 23 = .ok (.getfield 80, 3) := by decide +kernel
theorem xd_R_enter_26 : decode xb_R_enter 26 = .ok (.iload_n 1, 1) := by decide +kernel
theorem xd_R_enter_27 : decode xb_R_enter 27 = .ok (.iload 5, 2) := by decide +kernel
theorem xd_R_enter_29 : decode xb_R_enter 29 = .ok (.iastore, 1) := by decide +kernel
theorem xd_R_enter_30 : decode xb_R_enter 30 = .ok (.aload_n 0, 1) := by decide +kernel
theorem xd_R_enter_31 : decode xb_R_enter 31 = .ok (.iconst 0, 1) := by decide +kernel
theorem xd_R_enter_32 : decode xb_R_enter 32 = .ok (.bipush 42, 2) := by decide +kernel
theorem xd_R_enter_34 : decode xb_R_enter 34 = .ok (.bipush 6, 2) := by decide +kernel
theorem xd_R_enter_36 : decode xb_R_enter 36 = .ok (.iload_n 2, 1) := by decide +kernel
theorem xd_R_enter_37 : decode xb_R_enter 37 = .ok (.iadd, 1) := by decide +kernel
theorem xd_R_enter_38 : decode xb_R_enter 38 = .ok (.imul, 1) := by decide +kernel
theorem xd_R_enter_39 : decode xb_R_enter 39 = .ok (.bipush 14, 2) := by decide +kernel
theorem xd_R_enter_41 : decode xb_R_enter 41 = .ok (.iload_n 3, 1) := by decide +kernel
theorem xd_R_enter_42 : decode xb_R_enter 42 = .ok (.imul, 1) := by decide +kernel
theorem xd_R_enter_43 : decode xb_R_enter 43 = .ok (.iadd, 1) := by decide +kernel
theorem xd_R_enter_44 : decode xb_R_enter 44 = .ok (.iload_n 1, 1) := by decide +kernel
theorem xd_R_enter_45 : decode xb_R_enter 45 = .ok (.invokevirtual 152, 3) := by decide +kernel
theorem xd_R_enter_48 : decode xb_R_enter 48 = .ok (.return_, 1) := by decide +kernel
theorem xd_R_quotient_0 : decode xb_R_quotient 0 = .ok (.iload_n 1, 1) := by decide +kernel
theorem xd_R_quotient_1 : decode xb_R_quotient 1 = .ok (.ifCond .ne 7, 3) := by decide +kernel
theorem xd_R_quotient_4 : decode xb_R_quotient 4 = .ok (.iconst 0, 1) := by decide +kernel
theorem xd_R_quotient_5 : decode xb_R_quotient 5 = .ok (.goto 6, 3) := by decide +kernel
theorem xd_R_quotient_8 : decode xb_R_quotient 8 = .ok (.iload_n 0, 1) := by decide +kernel
theorem xd_R_quotient_9 : decode xb_R_quotient 9 = .ok (.iload_n 1, 1) := by decide +kernel
theorem xd_R_quotient_10 : decode xb_R_quotient 10 = .ok (.idiv, 1) := by decide +kernel
theorem xd_R_quotient_11 : decode xb_R_quotient 11 = .ok (.ireturn, 1) := by decide +kernel
theorem xd_R_use_0 : decode xb_R_use 0 = .ok (.aload_n 0, 1) := by decide +kernel
theorem xd_R_use_1 : decode xb_R_use 1 = .ok (.getfield 25, 3) := by decide +kernel
theorem xd_R_use_4 : decode xb_R_use 4 = .ok (.iload_n 1, 1) := by decide +kernel
theorem xd_R_use_5 : decode xb_R_use 5 = .ok (.iaload, 1) := by decide +kernel
theorem xd_R_use_6 : decode xb_R_use 6 = .ok (.istore_n 3, 1) := by decide +kernel
theorem xd_R_use_7 : decode xb_R_use 7 = .ok (.aload_n 0, 1) := by decide +kernel
theorem xd_R_use_8 : decode xb_R_use 8 = .ok (.iload_n 1, 1) := by decide +kernel
theorem xd_R_use_9 : decode xb_R_use 9 = .ok (.invokevirtual 130, 3) := by decide +kernel
theorem xd_R_use_12 : decode xb_R_use 12 = .ok (.istore 4, 2) := by decide +kernel
theorem xd_R_use_14 : decode xb_R_use 14 = .ok (.iload 4, 2) := by decide +kernel
theorem xd_R_use_16 : decode xb_R_use 16 = .ok (.iconst 2, 1) := by decide +kernel
theorem xd_R_use_17 : decode xb_R_use 17 = .ok (.if_icmp .ne 10, 3) := by decide +kernel
theorem xd_R_use_20 : decode xb_R_use 20 = .ok (.aload_n 0, 1) := by decide +kernel
theorem xd_R_use_21 : decode xb_R_use 21 = .ok (.invokevirtual 146, 3) := by decide +kernel
theorem xd_R_use_24 : decode xb_R_use 24 = .ok (.goto 4, 3) := by decide +kernel
theorem xd_R_use_27 : decode xb_R_use 27 = .ok (.iconst 0, 1) := by decide +kernel
theorem xd_R_use_28 : decode xb_R_use 28 = .ok (.istore 5, 2) := by decide +kernel
theorem xd_R_use_30 : decode xb_R_use 30 = .ok (.iload 4, 2) := by decide +kernel
theorem xd_R_use_32 : decode xb_R_use 32 = .ok (.ifCond .le 10, 3) := by decide +kernel
theorem xd_R_use_35 : decode xb_R_use 35 = .ok (.aload_n 0, 1) := by decide +kernel
theorem xd_R_use_36 : decode xb_R_use 36 = .ok (.invokevirtual 146, 3) := by decide +kernel
theorem xd_R_use_39 : decode xb_R_use 39 = .ok (.goto 4, 3) := by decide +kernel
theorem xd_R_use_42 : decode xb_R_use 42 = .ok (.iconst 0, 1) := by decide +kernel
theorem xd_R_use_43 : decode xb_R_use 43 = .ok (.istore 6, 2) := by decide +kernel
theorem xd_R_use_45 : decode xb_R_use 45 = .ok (.iload_n 3, 1) := by decide +kernel
theorem xd_R_use_46 : decode xb_R_use 46 = .ok (.bipush 11, 2) := by decide +kernel
theorem xd_R_use_48 : decode xb_R_use 48 = .ok (.if_icmp .ne 36, 3) := by decide +kernel
theorem xd_R_use_51 : decode xb_R_use 51 = .ok (.iload_n 2, 1) := by decide +kernel
theorem xd_R_use_52 : decode xb_R_use 52 = .ok (.iconst 5, 1) := by decide +kernel
theorem xd_R_use_53 : decode xb_R_use 53 = .ok (.if_icmp .ne 6, 3) := by decide +kernel
theorem xd_R_use_56 : decode xb_R_use 56 = .ok (.bipush (-9), 2) := by decide +kernel
theorem xd_R_use_58 : decode xb_R_use 58 = .ok (.ireturn, 1) := by decide +kernel
theorem xd_R_use_59 : decode xb_R_use 59 = .ok (.aload_n 0, 1) := by decide +kernel
theorem xd_R_use_60 : decode xb_R_use 60 = .ok (.iload_n 2, 1) := by decide +kernel
theorem xd_R_use_61 : decode xb_R_use 61 = .ok (.iconst 1, 1) := by decide +kernel
theorem xd_R_use_62 : decode xb_R_use 62 = .ok (.iadd, 1) := by decide +kernel
theorem xd_R_use_63 : decode xb_R_use 63 = .ok (.aload_n 0, 1) := by decide +kernel
theorem xd_R_use_64 : decode xb_R_use 64 = .ok (.getfield 28, 3) := by decide +kernel
theorem xd_R_use_67 : decode xb_R_use 67 = .ok (.iload_n 1, 1) := by decide +kernel
theorem xd_R_use_68 : decode xb_R_use 68 = .ok (.iaload, 1) := by decide +kernel
theorem xd_R_use_69 : decode xb_R_use 69 = .ok (.aload_n 0, 1) := by decide +kernel
theorem xd_R_use_70 : decode xb_R_use 70 = .ok (.getfield 31, 3) := by decide +kernel
theorem xd_R_use_73 : decode xb_R_use 73 = .ok (.iload_n 1, 1) := by decide +kernel
theorem xd_R_use_74 : decode xb_R_use 74 = .ok (.iaload, 1) := by decide +kernel
theorem xd_R_use_75 : decode xb_R_use 75 = .ok (.iload 6, 2) := by decide +kernel
theorem xd_R_use_77 : decode xb_R_use 77 = .ok (.iload 5, 2) := by decide +kernel
theorem xd_R_use_79 : decode xb_R_use 79 = .ok (.invokevirtual 136, 3) := by decide +kernel
theorem xd_R_use_82 : decode xb_R_use 82 = .ok (.iconst 0, 1) := by decide +kernel
theorem xd_R_use_83 : decode xb_R_use 83 = .ok (.ireturn, 1) := by decide +kernel
theorem xd_R_use_84 : decode xb_R_use 84 = .ok (.iload_n 3, 1) := by decide +kernel
theorem xd_R_use_85 : decode xb_R_use 85 = .ok (.bipush 7, 2) := by decide +kernel
theorem xd_R_use_87 : decode xb_R_use 87 = .ok (.if_icmp .ne 11, 3) := by decide +kernel
theorem xd_R_use_90 : decode xb_R_use 90 = .ok (.iload 5, 2) := by decide +kernel
theorem xd_R_use_92 : decode xb_R_use 92 = .ok (.ifCond .ne 6, 3) := by decide +kernel
theorem xd_R_use_95 : decode xb_R_use 95 = .ok (.bipush (-8), 2) := by decide +kernel
theorem xd_R_use_97 : decode xb_R_use 97 = .ok (.ireturn, 1) := by decide +kernel
theorem xd_R_use_98 : decode xb_R_use 98 = .ok (.iload_n 3, 1) := by decide +kernel
theorem xd_R_use_99 : decode xb_R_use 99 = .ok (.iconst 3, 1) := by decide +kernel
theorem xd_R_use_100 : decode xb_R_use 100 = .ok (.if_icmp .ne 25, 3) := by decide +kernel
theorem xd_R_use_103 : decode xb_R_use 103 = .ok (.aload_n 0, 1) := by decide +kernel
theorem xd_R_use_104 : decode xb_R_use 104 = .ok (.getfield 43, 3) := by decide +kernel
theorem xd_R_use_107 : decode xb_R_use 107 = .ok (.iconst 3, 1) := by decide +kernel
theorem xd_R_use_108 : decode xb_R_use 108 = .ok (.aload_n 0, 1) := by decide +kernel
theorem xd_R_use_109 : decode xb_R_use 109 = .ok (.getfield 71, 3) := by decide +kernel
theorem xd_R_use_112 : decode xb_R_use 112 = .ok (.iload_n 2, 1) := by decide +kernel
theorem xd_R_use_113 : decode xb_R_use 113 = .ok (.iaload, 1) := by decide +kernel
theorem xd_R_use_114 : decode xb_R_use 114 = .ok (.imul, 1) := by decide +kernel
theorem xd_R_use_115 : decode xb_R_use 115 = .ok (.aload_n 0, 1) := by decide +kernel
theorem xd_R_use_116 : decode xb_R_use 116 = .ok (.getfield 31, 3) := by decide +kernel
theorem xd_R_use_119 : decode xb_R_use 119 = .ok (.iload_n 1, 1) := by decide +kernel
theorem xd_R_use_120 : decode xb_R_use 120 = .ok (.iaload, 1) := by decide +kernel
theorem xd_R_use_121 : decode xb_R_use 121 = .ok (.iadd, 1) := by decide +kernel
theorem xd_R_use_122 : decode xb_R_use 122 = .ok (.iload 6, 2) := by decide +kernel
theorem xd_R_use_124 : decode xb_R_use 124 = .ok (.iastore, 1) := by decide +kernel
theorem xd_R_use_125 : decode xb_R_use 125 = .ok (.aload_n 0, 1) := by decide +kernel
theorem xd_R_use_126 : decode xb_R_use 126 = .ok (.iload_n 3, 1) := by decide +kernel
theorem xd_R_use_127 : decode xb_R_use 127 = .ok (.iconst 3, 1) := by decide +kernel
theorem xd_R_use_128 : decode xb_R_use 128 = .ok (.if_icmp .ne 8, 3) := by decide +kernel
theorem xd_R_use_131 : decode xb_R_use 131 = .ok (.iload 6, 2) := by decide +kernel
theorem xd_R_use_133 : decode xb_R_use 133 = .ok (.goto 71, 3) := by decide +kernel
theorem xd_R_use_136 : decode xb_R_use 136 = .ok (.iload_n 3, 1) := by decide +kernel
theorem xd_R_use_137 : decode xb_R_use 137 = .ok (.iconst 4, 1) := by decide +kernel
theorem xd_R_use_138 : decode xb_R_use 138 = .ok (.if_icmp .ne 11, 3) := by decide +kernel
theorem xd_R_use_141 : decode xb_R_use 141 = .ok (.iload 6, 2) := by decide +kernel
theorem xd_R_use_143 : decode xb_R_use 143 = .ok (.iload 5, 2) := by decide +kernel
theorem xd_R_use_145 : decode xb_R_use 145 = .ok (.iadd, 1) := by decide +kernel
theorem xd_R_use_146 : decode xb_R_use 146 = .ok (.goto 58, 3) := by decide +kernel
theorem xd_R_use_149 : decode xb_R_use 149 = .ok (.iload_n 3, 1) := by decide +kernel
theorem xd_R_use_150 : decode xb_R_use 150 = .ok (.iconst 5, 1) := by decide +kernel
theorem xd_R_use_151 : decode xb_R_use 151 = .ok (.if_icmp .ne 11, 3) := by decide +kernel
theorem xd_R_use_154 : decode xb_R_use 154 = .ok (.iload 6, 2) := by decide +kernel
theorem xd_R_use_156 : decode xb_R_use 156 = .ok (.iload 5, 2) := by decide +kernel
theorem xd_R_use_158 : decode xb_R_use 158 = .ok (.isub, 1) := by decide +kernel
theorem xd_R_use_159 : decode xb_R_use 159 = .ok (.goto 45, 3) := by decide +kernel
theorem xd_R_use_162 : decode xb_R_use 162 = .ok (.iload_n 3, 1) := by decide +kernel
theorem xd_R_use_163 : decode xb_R_use 163 = .ok (.bipush 6, 2) := by decide +kernel
theorem xd_R_use_165 : decode xb_R_use 165 = .ok (.if_icmp .ne 11, 3) := by decide +kernel
theorem xd_R_use_168 : decode xb_R_use 168 = .ok (.iload 6, 2) := by decide +kernel
theorem xd_R_use_170 : decode xb_R_use 170 = .ok (.iload 5, 2) := by decide +kernel
theorem xd_R_use_172 : decode xb_R_use 172 = .ok (.imul, 1) := by decide +kernel
theorem xd_R_use_173 : decode xb_R_use 173 = .ok (.goto 31, 3) := by decide +kernel
theorem xd_R_use_176 : decode xb_R_use 176 = .ok (.iload_n 3, 1) := by decide +kernel
theorem xd_R_use_177 : decode xb_R_use 177 = .ok (.bipush 8, 2) := by decide +kernel
theorem xd_R_use_179 : decode xb_R_use 179 = .ok (.if_icmp .ne 18, 3) := by decide +kernel
theorem xd_R_use_182 : decode xb_R_use 182 = .ok (.iload 6, 2) := by decide +kernel
theorem xd_R_use_184 : decode xb_R_use 184 = .ok (.iload 5, 2) := by decide +kernel
theorem xd_R_use_186 : decode xb_R_use 186 = .ok (.if_icmp .ge 7, 3) := by decide +kernel
theorem xd_R_use_189 : decode xb_R_use 189 = .ok (.iconst 1, 1) := by decide +kernel
theorem xd_R_use_190 : decode xb_R_use 190 = .ok (.goto 14, 3) := by decide +kernel
theorem xd_R_use_193 : decode xb_R_use 193 = .ok (.iconst 0, 1) := by decide +kernel
theorem xd_R_use_194 : decode xb_R_use 194 = .ok (.goto 10, 3) := by decide +kernel
theorem xd_R_use_197 : decode xb_R_use 197 = .ok (.iload 6, 2) := by decide +kernel
theorem xd_R_use_199 : decode xb_R_use 199 = .ok (.iload 5, 2) := by decide +kernel
theorem xd_R_use_201 : decode xb_R_use 201 = .ok (.invokestatic 162, 3) := by decide +kernel
theorem xd_R_use_204 : decode xb_R_use 204 = .ok (.invokevirtual 159, 3) := by decide +kernel
theorem xd_R_use_207 : decode xb_R_use 207 = .ok (.iconst 0, 1) := by decide +kernel
theorem xd_R_use_208 : decode xb_R_use 208 = .ok (.ireturn, 1) := by decide +kernel
theorem xd_R_begin2_0 : decode xb_R_begin2 0 = .ok (.aload_n 0, 1) := by decide +kernel
theorem xd_R_begin2_1 : decode xb_R_begin2 1 = .ok (.dup, 1) := by decide +kernel
theorem xd_R_begin2_2 : decode xb_R_begin2 2 = .ok (.getfield 133, 3) := by decide +kernel
theorem xd_R_begin2_5 : decode xb_R_begin2 5 = .ok (.iconst 1, 1) := by decide +kernel
theorem xd_R_begin2_6 : decode xb_R_begin2 6 = .ok (.iadd, 1) := by decide +kernel
theorem xd_R_begin2_7 : decode xb_R_begin2 7 = .ok (.putfield 133, 3) := by decide +kernel
theorem xd_R_begin2_10 : decode xb_R_begin2 10 = .ok (.aload_n 0, 1) := by decide +kernel
theorem xd_R_begin2_11 : decode xb_R_begin2 11 = .ok (.getfield 25, 3) := by decide +kernel
theorem xd_R_begin2_14 : decode xb_R_begin2 14 = .ok (.iload_n 1, 1) := by decide +kernel
theorem xd_R_begin2_15 : decode xb_R_begin2 15 = .ok (.iaload, 1) := by decide +kernel
theorem xd_R_begin2_16 : decode xb_R_begin2 16 = .ok (.istore_n 3, 1) := by decide +kernel
theorem xd_R_begin2_17 : decode xb_R_begin2 17 = .ok (.iload_n 3, 1) := by decide +kernel
theorem xd_R_begin2_18 : decode xb_R_begin2 18 = .ok (.ifCond .ne 16, 3) := by decide +kernel
theorem xd_R_begin2_21 : decode xb_R_begin2 21 = .ok (.aload_n 0, 1) := by decide +kernel
theorem xd_R_begin2_22 : decode xb_R_begin2 22 = .ok (.aload_n 0, 1) := by decide +kernel
theorem xd_R_begin2_23 : decode xb_R_begin2 23 = .ok (.getfield 28, 3) := by decide +kernel
theorem xd_R_begin2_26 : decode xb_R_begin2 26 = .ok (.iload_n 1, 1) := by decide +kernel
theorem xd_R_begin2_27 : decode xb_R_begin2 27 = .ok (.iaload, 1) := by decide +kernel
theorem xd_R_begin2_28 : decode xb_R_begin2 28 = .ok (.invokevirtual 159, 3) := by decide +kernel
theorem xd_R_begin2_31 : decode xb_R_begin2 31 = .ok (.goto 181, 3) := by decide +kernel
theorem xd_R_begin2_34 : decode xb_R_begin2 34 = .ok (.iload_n 3, 1) := by decide +kernel
theorem xd_R_begin2_35 : decode xb_R_begin2 35 = .ok (.iconst 1, 1) := by decide +kernel
theorem xd_R_begin2_36 : decode xb_R_begin2 36 = .ok (.if_icmp .ne 34, 3) := by decide +kernel
theorem xd_R_begin2_39 : decode xb_R_begin2 39 = .ok (.aload_n 0, 1) := by decide +kernel
theorem xd_R_begin2_40 : decode xb_R_begin2 40 = .ok (.aload_n 0, 1) := by decide +kernel
theorem xd_R_begin2_41 : decode xb_R_begin2 41 = .ok (.getfield 28, 3) := by decide +kernel
theorem xd_R_begin2_44 : decode xb_R_begin2 44 = .ok (.iload_n 1, 1) := by decide +kernel
theorem xd_R_begin2_45 : decode xb_R_begin2 45 = .ok (.iaload, 1) := by decide +kernel
theorem xd_R_begin2_46 : decode xb_R_begin2 46 = .ok (.ifCond .ne 12, 3) := by decide +kernel
theorem xd_R_begin2_49 : decode xb_R_begin2 49 = .ok (.aload_n 0, 1) := by decide +kernel
theorem xd_R_begin2_50 : decode xb_R_begin2 50 = .ok (.getfield 77, 3) := by decide +kernel
theorem xd_R_begin2_53 : decode xb_R_begin2 53 = .ok (.iload_n 2, 1) := by decide +kernel
theorem xd_R_begin2_54 : decode xb_R_begin2 54 = .ok (.iaload, 1) := by decide +kernel
theorem xd_R_begin2_55 : decode xb_R_begin2 55 = .ok (.goto 9, 3) := by decide +kernel
theorem xd_R_begin2_58 : decode xb_R_begin2 58 = .ok (.aload_n 0, 1) := by decide +kernel
theorem xd_R_begin2_59 : decode xb_R_begin2 59 = .ok (.getfield 80, 3) := by decide +kernel
theorem xd_R_begin2_62 : decode xb_R_begin2 62 = .ok (.iload_n 2, 1) := by decide +kernel
theorem xd_R_begin2_63 : decode xb_R_begin2 63 = .ok (.iaload, 1) := by decide +kernel
theorem xd_R_begin2_64 : decode xb_R_begin2 64 = .ok (.invokevirtual 159, 3) := by decide +kernel
theorem xd_R_begin2_67 : decode xb_R_begin2 67 = .ok (.goto 145, 3) := by decide +kernel
theorem xd_R_begin2_70 : decode xb_R_begin2 70 = .ok (.iload_n 3, 1) := by decide +kernel
theorem xd_R_begin2_71 : decode xb_R_begin2 71 = .ok (.iconst 2, 1) := by decide +kernel
theorem xd_R_begin2_72 : decode xb_R_begin2 72 = .ok (.if_icmp .ne 30, 3) := by decide +kernel
theorem xd_R_begin2_75 : decode xb_R_begin2 75 = .ok (.aload_n 0, 1) := by decide +kernel
theorem xd_R_begin2_76 : decode xb_R_begin2 76 = .ok (.aload_n 0, 1) := by decide +kernel
theorem xd_R_begin2_77 : decode xb_R_begin2 77 = .ok (.getfield 43, 3) := by decide +kernel
theorem xd_R_begin2_80 : decode xb_R_begin2 80 = .ok (.iconst 3, 1) := by decide +kernel
theorem xd_R_begin2_81 : decode xb_R_begin2 81 = .ok (.aload_n 0, 1) := by decide +kernel
theorem xd_R_begin2_82 : decode xb_R_begin2 82 = .ok (.getfield 28, 3) := by decide +kernel
theorem xd_R_begin2_85 : decode xb_R_begin2 85 = .ok (.iload_n 1, 1) := by decide +kernel
theorem xd_R_begin2_86 : decode xb_R_begin2 86 = .ok (.iaload, 1) := by decide +kernel
theorem xd_R_begin2_87 : decode xb_R_begin2 87 = .ok (.imul, 1) := by decide +kernel
theorem xd_R_begin2_88 : decode xb_R_begin2 88 = .ok (.aload_n 0, 1) := by decide +kernel
theorem xd_R_begin2_89 : decode xb_R_begin2 89 = .ok (.getfield 31, 3) := by decide +kernel
theorem xd_R_begin2_92 : decode xb_R_begin2 92 = .ok (.iload_n 1, 1) := by decide +kernel
theorem xd_R_begin2_93 : decode xb_R_begin2 93 = .ok (.iaload, 1) := by decide +kernel
theorem xd_R_begin2_94 : decode xb_R_begin2 94 = .ok (.iadd, 1) := by decide +kernel
theorem xd_R_begin2_95 : decode xb_R_begin2 95 = .ok (.iaload, 1) := by decide +kernel
theorem xd_R_begin2_96 : decode xb_R_begin2 96 = .ok (.invokevirtual 159, 3) := by decide +kernel
theorem xd_R_begin2_99 : decode xb_R_begin2 99 = .ok (.goto 113, 3) := by decide +kernel
theorem xd_R_begin2_102 : decode xb_R_begin2 102 = .ok (.iload_n 3, 1) := by decide +kernel
theorem xd_R_begin2_103 : decode xb_R_begin2 103 = .ok (.bipush 9, 2) := by decide +kernel
theorem xd_R_begin2_105 : decode xb_R_begin2 105 = .ok (.if_icmp .ne 22, 3) := by decide +kernel
theorem xd_R_begin2_108 : decode xb_R_begin2 108 = .ok (.aload_n 0, 1) := by decide +kernel
theorem xd_R_begin2_109 : decode xb_R_begin2 109 = .ok (.iconst 3, 1) := by decide +kernel
theorem xd_R_begin2_110 : decode xb_R_begin2 110 = .ok (.iload_n 1, 1) := by decide +kernel
theorem xd_R_begin2_111 : decode xb_R_begin2 111 = .ok (.iload_n 2, 1) := by decide +kernel
theorem xd_R_begin2_112 : decode xb_R_begin2 112 = .ok (.invokevirtual 152, 3) := by decide +kernel
theorem xd_R_begin2_115 : decode xb_R_begin2 115 = .ok (.aload_n 0, 1) := by decide +kernel
theorem xd_R_begin2_116 : decode xb_R_begin2 116 = .ok (.iconst 0, 1) := by decide +kernel
theorem xd_R_begin2_117 : decode xb_R_begin2 117 = .ok (.iload_n 1, 1) := by decide +kernel
theorem xd_R_begin2_118 : decode xb_R_begin2 118 = .ok (.iconst 1, 1) := by decide +kernel
theorem xd_R_begin2_119 : decode xb_R_begin2 119 = .ok (.iadd, 1) := by decide +kernel
theorem xd_R_begin2_120 : decode xb_R_begin2 120 = .ok (.iload_n 2, 1) := by decide +kernel
theorem xd_R_begin2_121 : decode xb_R_begin2 121 = .ok (.invokevirtual 152, 3) := by decide +kernel
theorem xd_R_begin2_124 : decode xb_R_begin2 124 = .ok (.goto 88, 3) := by decide +kernel
theorem xd_R_begin2_127 : decode xb_R_begin2 127 = .ok (.iload_n 3, 1) := by decide +kernel
theorem xd_R_begin2_128 : decode xb_R_begin2 128 = .ok (.bipush 10, 2) := by decide +kernel
theorem xd_R_begin2_130 : decode xb_R_begin2 130 = .ok (.if_icmp .ne 35, 3) := by decide +kernel
theorem xd_R_begin2_133 : decode xb_R_begin2 133 = .ok (.aload_n 0, 1) := by decide +kernel
theorem xd_R_begin2_134 : decode xb_R_begin2 134 = .ok (.iconst 0, 1) := by decide +kernel
theorem xd_R_begin2_135 : decode xb_R_begin2 135 = .ok (.aload_n 0, 1) := by decide +kernel
theorem xd_R_begin2_136 : decode xb_R_begin2 136 = .ok (.iload_n 1, 1) := by decide +kernel
theorem xd_R_begin2_137 : decode xb_R_begin2 137 = .ok (.iconst 1, 1) := by decide +kernel
theorem xd_R_begin2_138 : decode xb_R_begin2 138 = .ok (.iadd, 1) := by decide +kernel
theorem xd_R_begin2_139 : decode xb_R_begin2 139 = .ok (.invokevirtual 149, 3) := by decide +kernel
theorem xd_R_begin2_142 : decode xb_R_begin2 142 = .ok (.iload_n 2, 1) := by decide +kernel
theorem xd_R_begin2_143 : decode xb_R_begin2 143 = .ok (.invokevirtual 152, 3) := by decide +kernel
theorem xd_R_begin2_146 : decode xb_R_begin2 146 = .ok (.aload_n 0, 1) := by decide +kernel
theorem xd_R_begin2_147 : decode xb_R_begin2 147 = .ok (.iconst 2, 1) := by decide +kernel
theorem xd_R_begin2_148 : decode xb_R_begin2 148 = .ok (.iload_n 1, 1) := by decide +kernel
theorem xd_R_begin2_149 : decode xb_R_begin2 149 = .ok (.iload_n 2, 1) := by decide +kernel
theorem xd_R_begin2_150 : decode xb_R_begin2 150 = .ok (.invokevirtual 152, 3) := by decide +kernel
theorem xd_R_begin2_153 : decode xb_R_begin2 153 = .ok (.aload_n 0, 1) := by decide +kernel
theorem xd_R_begin2_154 : decode xb_R_begin2 154 = .ok (.iconst 0, 1) := by decide +kernel
theorem xd_R_begin2_155 : decode xb_R_begin2 155 = .ok (.iload_n 1, 1) := by decide +kernel
theorem xd_R_begin2_156 : decode xb_R_begin2 156 = .ok (.iconst 1, 1) := by decide +kernel
theorem xd_R_begin2_157 : decode xb_R_begin2 157 = .ok (.iadd, 1) := by decide +kernel
theorem xd_R_begin2_158 : decode xb_R_begin2 158 = .ok (.iload_n 2, 1) := by decide +kernel
theorem xd_R_begin2_159 : decode xb_R_begin2 159 = .ok (.invokevirtual 152, 3) := by decide +kernel
theorem xd_R_begin2_162 : decode xb_R_begin2 162 = .ok (.goto 50, 3) := by decide +kernel
theorem xd_R_begin2_165 : decode xb_R_begin2 165 = .ok (.aload_n 0, 1) := by decide +kernel
theorem xd_R_begin2_166 : decode xb_R_begin2 166 = .ok (.iconst 1, 1) := by decide +kernel
theorem xd_R_begin2_167 : decode xb_R_begin2 167 = .ok (.iload_n 1, 1) := by decide +kernel
theorem xd_R_begin2_168 : decode xb_R_begin2 168 = .ok (.iload_n 2, 1) := by decide +kernel
theorem xd_R_begin2_169 : decode xb_R_begin2 169 = .ok (.invokevirtual 152, 3) := by decide +kernel
theorem xd_R_begin2_172 : decode xb_R_begin2 172 = .ok (.aload_n 0, 1) := by decide +kernel
theorem xd_R_begin2_173 : decode xb_R_begin2 173 = .ok (.iload_n 1, 1) := by decide +kernel
theorem xd_R_begin2_174 : decode xb_R_begin2 174 = .ok (.invokevirtual 130, 3) := by decide +kernel
theorem xd_R_begin2_177 : decode xb_R_begin2 177 = .ok (.istore 4, 2) := by decide +kernel
theorem xd_R_begin2_179 : decode xb_R_begin2 179 = .ok (.iload 4, 2) := by decide +kernel
theorem xd_R_begin2_181 : decode xb_R_begin2 181 = .ok (.iconst 2, 1) := by decide +kernel
theorem xd_R_begin2_182 : decode xb_R_begin2 182 = .ok (.if_icmp .ne 16, 3) := by decide +kernel
theorem xd_R_begin2_185 : decode xb_R_begin2 185 = .ok (.aload_n 0, 1) := by decide +kernel
theorem xd_R_begin2_186 : decode xb_R_begin2 186 = .ok (.iconst 0, 1) := by decide +kernel
theorem xd_R_begin2_187 : decode xb_R_begin2 187 = .ok (.aload_n 0, 1) := by decide +kernel
theorem xd_R_begin2_188 : decode xb_R_begin2 188 = .ok (.iload_n 1, 1) := by decide +kernel
theorem xd_R_begin2_189 : decode xb_R_begin2 189 = .ok (.iconst 1, 1) := by decide +kernel
theorem xd_R_begin2_190 : decode xb_R_begin2 190 = .ok (.iadd, 1) := by decide +kernel
theorem xd_R_begin2_191 : decode xb_R_begin2 191 = .ok (.invokevirtual 149, 3) := by decide +kernel
theorem xd_R_begin2_194 : decode xb_R_begin2 194 = .ok (.iload_n 2, 1) := by decide +kernel
theorem xd_R_begin2_195 : decode xb_R_begin2 195 = .ok (.invokevirtual 152, 3) := by decide +kernel
theorem xd_R_begin2_198 : decode xb_R_begin2 198 = .ok (.iload 4, 2) := by decide +kernel
theorem xd_R_begin2_200 : decode xb_R_begin2 200 = .ok (.ifCond .le 12, 3) := by decide +kernel
theorem xd_R_begin2_203 : decode xb_R_begin2 203 = .ok (.aload_n 0, 1) := by decide +kernel
theorem xd_R_begin2_204 : decode xb_R_begin2 204 = .ok (.iconst 0, 1) := by decide +kernel
theorem xd_R_begin2_205 : decode xb_R_begin2 205 = .ok (.iload_n 1, 1) := by decide +kernel
theorem xd_R_begin2_206 : decode xb_R_begin2 206 = .ok (.iconst 1, 1) := by decide +kernel
theorem xd_R_begin2_207 : decode xb_R_begin2 207 = .ok (.iadd, 1) := by decide +kernel
theorem xd_R_begin2_208 : decode xb_R_begin2 208 = .ok (.iload_n 2, 1) := by decide +kernel
theorem xd_R_begin2_209 : decode xb_R_begin2 209 = .ok (.invokevirtual 152, 3) := by decide +kernel
theorem xd_R_begin2_212 : decode xb_R_begin2 212 = .ok (.return_, 1) := by decide +kernel
section
variable {l : Launch} {D : va_G} {ad : Nat → Nat} {ids : Nat → ClassId} {ps : Nat}
def xm_R_push (σ : aw_m) (a1 : Int32) (a2 : Int32) (a3 : Int32) : Option aw_m := if aw_in (σ 0 22) 300 = true then aw_l (aw_p σ 16 (Int32.toNatClampNeg (σ 0 22)) a1) fun s_9 => if aw_in (s_9 0 22) 300 = true then aw_l (aw_p s_9 17 (Int32.toNatClampNeg (s_9 0 22)) a2) fun s_19 => if aw_in (s_19 0 22) 300 = true then aw_l (aw_p s_19 18 (Int32.toNatClampNeg (s_19 0 22)) a3) fun s_29 => aw_l (aw_p s_29 0 22 ((s_29 0 22) + (1 : Int32))) fun s_37 => some s_37 else none else none else none
set_option maxHeartbeats 4000000 in
set_option maxRecDepth 100000 in
theorem xc_R_push (σ : aw_m) (a1 : Int32) (a2 : Int32) (a3 : Int32) (q : aw_m)  (hm : xm_R_push σ a1 a2 a3 = some q) : aw_M l D (ty_z ids) (zs_T ps) xy_R_push (xw_R_push :: gw_l) (rm_D (0)) [.ref (ad 0), .int a1, .int a2, .int a3] (rw_w ad ids σ) none (rw_w ad ids q) := by
  refine aw_intro (cc := xb_R_push) (n := 4) (ret := none) "ModuleShelfModel" rfl (by decide) rfl (Nat.le_of_ble_eq_true rfl) ?_
  intro κ C
  unfold xm_R_push at hm
  refine aw_aload_n C 0 xd_R_push_0 rfl rfl ?_
  refine aw_get C 0 (by decide) rfl rfl (fun w h => List.mem_cons_of_mem _ (xi_R w h)) 19 (by decide) rfl (List.mem_cons_of_mem _ fl_R_59) xd_R_push_1 ?_
  refine aw_aload_n C 0 xd_R_push_4 rfl rfl ?_
  refine aw_get C 0 (by decide) rfl rfl (fun w h => List.mem_cons_of_mem _ (xi_R w h)) 22 (by decide) rfl (List.mem_cons_of_mem _ fl_R_124) xd_R_push_5 ?_
  refine aw_iload_n C 1 xd_R_push_8 rfl rfl ?_
  obtain ⟨g_9, hm⟩ := aw_grd hm
  obtain ⟨s_9, h_9, hm⟩ := aw_let hm
  refine aw_iast (σ1 := s_9) (g := upd (σ 16) (Int32.toNatClampNeg (σ 0 22)) a1) C 16 (by decide) 0 rfl rfl (aw_in_ok g_9) rfl h_9 xd_R_push_9 ?_
  refine aw_aload_n C 0 xd_R_push_10 rfl rfl ?_
  refine aw_get C 0 (by decide) rfl rfl (fun w h => List.mem_cons_of_mem _ (xi_R w h)) 20 (by decide) rfl (List.mem_cons_of_mem _ fl_R_62) xd_R_push_11 ?_
  refine aw_aload_n C 0 xd_R_push_14 rfl rfl ?_
  refine aw_get C 0 (by decide) rfl rfl (fun w h => List.mem_cons_of_mem _ (xi_R w h)) 22 (by decide) rfl (List.mem_cons_of_mem _ fl_R_124) xd_R_push_15 ?_
  refine aw_iload_n C 2 xd_R_push_18 rfl rfl ?_
  obtain ⟨g_19, hm⟩ := aw_grd hm
  obtain ⟨s_19, h_19, hm⟩ := aw_let hm
  refine aw_iast (σ1 := s_19) (g := upd (s_9 17) (Int32.toNatClampNeg (s_9 0 22)) a2) C 17 (by decide) 0 rfl rfl (aw_in_ok g_19) rfl h_19 xd_R_push_19 ?_
  refine aw_aload_n C 0 xd_R_push_20 rfl rfl ?_
  refine aw_get C 0 (by decide) rfl rfl (fun w h => List.mem_cons_of_mem _ (xi_R w h)) 21 (by decide) rfl (List.mem_cons_of_mem _ fl_R_65) xd_R_push_21 ?_
  refine aw_aload_n C 0 xd_R_push_24 rfl rfl ?_
  refine aw_get C 0 (by decide) rfl rfl (fun w h => List.mem_cons_of_mem _ (xi_R w h)) 22 (by decide) rfl (List.mem_cons_of_mem _ fl_R_124) xd_R_push_25 ?_
  refine aw_iload_n C 3 xd_R_push_28 rfl rfl ?_
  obtain ⟨g_29, hm⟩ := aw_grd hm
  obtain ⟨s_29, h_29, hm⟩ := aw_let hm
  refine aw_iast (σ1 := s_29) (g := upd (s_19 18) (Int32.toNatClampNeg (s_19 0 22)) a3) C 18 (by decide) 0 rfl rfl (aw_in_ok g_29) rfl h_29 xd_R_push_29 ?_
  refine aw_aload_n C 0 xd_R_push_30 rfl rfl ?_
  refine aw_dup C xd_R_push_31 rfl ?_
  refine aw_get C 0 (by decide) rfl rfl (fun w h => List.mem_cons_of_mem _ (xi_R w h)) 22 (by decide) rfl (List.mem_cons_of_mem _ fl_R_124) xd_R_push_32 ?_
  refine aw_iconst (v := (1 : Int32)) C xd_R_push_35 (by decide) ?_
  refine aw_iadd C xd_R_push_36 ?_
  obtain ⟨s_37, h_37, hm⟩ := aw_let hm
  refine aw_put (σ1 := s_37) (f := upd (s_29 0) 22 ((s_29 0 22) + (1 : Int32))) C 0 (by decide) rfl rfl (fun w h => List.mem_cons_of_mem _ (xi_R w h)) xk_R xo_R xn_R 22 (by decide) (List.mem_cons_of_mem _ fl_R_124) rfl (ty := .int) (by decide +kernel) rfl rfl (Nat.le_of_ble_eq_true rfl) rfl h_37 xd_R_push_37 ?_
  cases hm
  exact aw_vret C xd_R_push_40
def xm_R_give (σ : aw_m) (a1 : Int32) : Option aw_m := if aw_in (σ 0 24) 300 = true then aw_l (aw_p σ 19 (Int32.toNatClampNeg (σ 0 24)) a1) fun s_9 => aw_l (aw_p s_9 0 24 ((s_9 0 24) + (1 : Int32))) fun s_17 => some s_17 else none
set_option maxHeartbeats 4000000 in
set_option maxRecDepth 100000 in
theorem xc_R_give (σ : aw_m) (a1 : Int32) (q : aw_m)  (hm : xm_R_give σ a1 = some q) : aw_M l D (ty_z ids) (zs_T ps) xy_R_give (xw_R_give :: gw_l) (rm_D (0)) [.ref (ad 0), .int a1] (rw_w ad ids σ) none (rw_w ad ids q) := by
  refine aw_intro (cc := xb_R_give) (n := 2) (ret := none) "ModuleShelfModel" rfl (by decide) rfl (Nat.le_of_ble_eq_true rfl) ?_
  intro κ C
  unfold xm_R_give at hm
  refine aw_aload_n C 0 xd_R_give_0 rfl rfl ?_
  refine aw_get C 0 (by decide) rfl rfl (fun w h => List.mem_cons_of_mem _ (xi_R w h)) 23 (by decide) rfl (List.mem_cons_of_mem _ fl_R_68) xd_R_give_1 ?_
  refine aw_aload_n C 0 xd_R_give_4 rfl rfl ?_
  refine aw_get C 0 (by decide) rfl rfl (fun w h => List.mem_cons_of_mem _ (xi_R w h)) 24 (by decide) rfl (List.mem_cons_of_mem _ fl_R_127) xd_R_give_5 ?_
  refine aw_iload_n C 1 xd_R_give_8 rfl rfl ?_
  obtain ⟨g_9, hm⟩ := aw_grd hm
  obtain ⟨s_9, h_9, hm⟩ := aw_let hm
  refine aw_iast (σ1 := s_9) (g := upd (σ 19) (Int32.toNatClampNeg (σ 0 24)) a1) C 19 (by decide) 0 rfl rfl (aw_in_ok g_9) rfl h_9 xd_R_give_9 ?_
  refine aw_aload_n C 0 xd_R_give_10 rfl rfl ?_
  refine aw_dup C xd_R_give_11 rfl ?_
  refine aw_get C 0 (by decide) rfl rfl (fun w h => List.mem_cons_of_mem _ (xi_R w h)) 24 (by decide) rfl (List.mem_cons_of_mem _ fl_R_127) xd_R_give_12 ?_
  refine aw_iconst (v := (1 : Int32)) C xd_R_give_15 (by decide) ?_
  refine aw_iadd C xd_R_give_16 ?_
  obtain ⟨s_17, h_17, hm⟩ := aw_let hm
  refine aw_put (σ1 := s_17) (f := upd (s_9 0) 24 ((s_9 0 24) + (1 : Int32))) C 0 (by decide) rfl rfl (fun w h => List.mem_cons_of_mem _ (xi_R w h)) xk_R xo_R xn_R 24 (by decide) (List.mem_cons_of_mem _ fl_R_127) rfl (ty := .int) (by decide +kernel) rfl rfl (Nat.le_of_ble_eq_true rfl) rfl h_17 xd_R_give_17 ?_
  cases hm
  exact aw_vret C xd_R_give_20
def xm_R_take (σ : aw_m)  : Option (Int32 × aw_m) := aw_l (aw_p σ 0 24 ((σ 0 24) - (1 : Int32))) fun s_7 => if aw_in (s_7 0 24) 300 = true then some (s_7 19 (Int32.toNatClampNeg (s_7 0 24)), s_7) else none
set_option maxHeartbeats 4000000 in
set_option maxRecDepth 100000 in
theorem xc_R_take (σ : aw_m)  (q : Int32 × aw_m)  (hm : xm_R_take σ  = some q) : aw_M l D (ty_z ids) (zs_T ps) xy_R_take (xw_R_take :: gw_l) (rm_D (0)) [.ref (ad 0)] (rw_w ad ids σ) (some (.int q.1)) (rw_w ad ids q.2) := by
  refine aw_intro (cc := xb_R_take) (n := 1) (ret := (some .int)) "ModuleShelfModel" rfl (by decide) rfl (Nat.le_of_ble_eq_true rfl) ?_
  intro κ C
  unfold xm_R_take at hm
  refine aw_aload_n C 0 xd_R_take_0 rfl rfl ?_
  refine aw_dup C xd_R_take_1 rfl ?_
  refine aw_get C 0 (by decide) rfl rfl (fun w h => List.mem_cons_of_mem _ (xi_R w h)) 24 (by decide) rfl (List.mem_cons_of_mem _ fl_R_127) xd_R_take_2 ?_
  refine aw_iconst (v := (1 : Int32)) C xd_R_take_5 (by decide) ?_
  refine aw_isub C xd_R_take_6 ?_
  obtain ⟨s_7, h_7, hm⟩ := aw_let hm
  refine aw_put (σ1 := s_7) (f := upd (σ 0) 24 ((σ 0 24) - (1 : Int32))) C 0 (by decide) rfl rfl (fun w h => List.mem_cons_of_mem _ (xi_R w h)) xk_R xo_R xn_R 24 (by decide) (List.mem_cons_of_mem _ fl_R_127) rfl (ty := .int) (by decide +kernel) rfl rfl (Nat.le_of_ble_eq_true rfl) rfl h_7 xd_R_take_7 ?_
  refine aw_aload_n C 0 xd_R_take_10 rfl rfl ?_
  refine aw_get C 0 (by decide) rfl rfl (fun w h => List.mem_cons_of_mem _ (xi_R w h)) 23 (by decide) rfl (List.mem_cons_of_mem _ fl_R_68) xd_R_take_11 ?_
  refine aw_aload_n C 0 xd_R_take_14 rfl rfl ?_
  refine aw_get C 0 (by decide) rfl rfl (fun w h => List.mem_cons_of_mem _ (xi_R w h)) 24 (by decide) rfl (List.mem_cons_of_mem _ fl_R_127) xd_R_take_15 ?_
  obtain ⟨g_18, hm⟩ := aw_grd hm
  refine aw_iald C 19 (by decide) 0 rfl rfl (aw_in_ok g_18) xd_R_take_18 ?_
  cases hm
  exact aw_iret C xd_R_take_19
def xm_R_parts (σ : aw_m) (a1 : Int32) : Option Int32 := if aw_in a1 546 = true then (if σ 6 (Int32.toNatClampNeg a1) = (0 : Int32) then some (0 : Int32) else (if σ 6 (Int32.toNatClampNeg a1) = (1 : Int32) then some (0 : Int32) else (if σ 6 (Int32.toNatClampNeg a1) = (2 : Int32) then some (0 : Int32) else (if σ 6 (Int32.toNatClampNeg a1) = (3 : Int32) then some (1 : Int32) else (if σ 6 (Int32.toNatClampNeg a1) = (4 : Int32) then some (2 : Int32) else (if σ 6 (Int32.toNatClampNeg a1) = (5 : Int32) then some (2 : Int32) else (if σ 6 (Int32.toNatClampNeg a1) = (6 : Int32) then some (2 : Int32) else (if σ 6 (Int32.toNatClampNeg a1) = (7 : Int32) then some (2 : Int32) else (if σ 6 (Int32.toNatClampNeg a1) = (8 : Int32) then some (2 : Int32) else (if σ 6 (Int32.toNatClampNeg a1) = (9 : Int32) then some (3 : Int32) else (if σ 6 (Int32.toNatClampNeg a1) = (10 : Int32) then some (2 : Int32) else (if σ 6 (Int32.toNatClampNeg a1) = (11 : Int32) then if aw_in a1 546 = true then if aw_in a1 546 = true then if aw_in (((3 : Int32) * ((6 : Int32) + (σ 7 (Int32.toNatClampNeg a1)))) + (σ 8 (Int32.toNatClampNeg a1))) 39 = true then some (σ 4 (Int32.toNatClampNeg (((3 : Int32) * ((6 : Int32) + (σ 7 (Int32.toNatClampNeg a1)))) + (σ 8 (Int32.toNatClampNeg a1))))) else none else none else none else some (2 : Int32))))))))))))) else none
set_option maxHeartbeats 4000000 in
set_option maxRecDepth 100000 in
theorem xc_R_parts (σ : aw_m) (a1 : Int32) (q : Int32)  (hm : xm_R_parts σ a1 = some q) : aw_M l D (ty_z ids) (zs_T ps) xy_R_parts (xw_R_parts :: gw_l) (rm_D (0)) [.ref (ad 0), .int a1] (rw_w ad ids σ) (some (.int q)) (rw_w ad ids σ) := by
  refine aw_intro (cc := xb_R_parts) (n := 2) (ret := (some .int)) "ModuleShelfModel" rfl (by decide) rfl (Nat.le_of_ble_eq_true rfl) ?_
  intro κ C
  unfold xm_R_parts at hm
  refine aw_aload_n C 0 xd_R_parts_0 rfl rfl ?_
  refine aw_get C 0 (by decide) rfl rfl (fun w h => List.mem_cons_of_mem _ (xi_R w h)) 5 (by decide) rfl (List.mem_cons_of_mem _ fl_R_25) xd_R_parts_1 ?_
  refine aw_iload_n C 1 xd_R_parts_4 rfl rfl ?_
  obtain ⟨g_5, hm⟩ := aw_grd hm
  refine aw_iald C 6 (by decide) 0 rfl rfl (aw_in_ok g_5) xd_R_parts_5 ?_
  by_cases c_6_0 : σ 6 (Int32.toNatClampNeg a1) = (0 : Int32)
  · rw [if_pos c_6_0] at hm
    refine aw_tabIn (off := 62) (tgt := 68) C xd_R_parts_6 (by rw [c_6_0]; decide) (by rw [c_6_0]; decide) (by rw [c_6_0]; rfl) (by decide) ?_
    refine aw_iconst (v := (0 : Int32)) C xd_R_parts_68 (by decide) ?_
    cases hm
    exact aw_iret C xd_R_parts_69
  rw [if_neg c_6_0] at hm
  by_cases c_6_1 : σ 6 (Int32.toNatClampNeg a1) = (1 : Int32)
  · rw [if_pos c_6_1] at hm
    refine aw_tabIn (off := 62) (tgt := 68) C xd_R_parts_6 (by rw [c_6_1]; decide) (by rw [c_6_1]; decide) (by rw [c_6_1]; rfl) (by decide) ?_
    refine aw_iconst (v := (0 : Int32)) C xd_R_parts_68 (by decide) ?_
    cases hm
    exact aw_iret C xd_R_parts_69
  rw [if_neg c_6_1] at hm
  by_cases c_6_2 : σ 6 (Int32.toNatClampNeg a1) = (2 : Int32)
  · rw [if_pos c_6_2] at hm
    refine aw_tabIn (off := 62) (tgt := 68) C xd_R_parts_6 (by rw [c_6_2]; decide) (by rw [c_6_2]; decide) (by rw [c_6_2]; rfl) (by decide) ?_
    refine aw_iconst (v := (0 : Int32)) C xd_R_parts_68 (by decide) ?_
    cases hm
    exact aw_iret C xd_R_parts_69
  rw [if_neg c_6_2] at hm
  by_cases c_6_3 : σ 6 (Int32.toNatClampNeg a1) = (3 : Int32)
  · rw [if_pos c_6_3] at hm
    refine aw_tabIn (off := 64) (tgt := 70) C xd_R_parts_6 (by rw [c_6_3]; decide) (by rw [c_6_3]; decide) (by rw [c_6_3]; rfl) (by decide) ?_
    refine aw_iconst (v := (1 : Int32)) C xd_R_parts_70 (by decide) ?_
    cases hm
    exact aw_iret C xd_R_parts_71
  rw [if_neg c_6_3] at hm
  by_cases c_6_4 : σ 6 (Int32.toNatClampNeg a1) = (4 : Int32)
  · rw [if_pos c_6_4] at hm
    refine aw_tabIn (off := 92) (tgt := 98) C xd_R_parts_6 (by rw [c_6_4]; decide) (by rw [c_6_4]; decide) (by rw [c_6_4]; rfl) (by decide) ?_
    refine aw_iconst (v := (2 : Int32)) C xd_R_parts_98 (by decide) ?_
    cases hm
    exact aw_iret C xd_R_parts_99
  rw [if_neg c_6_4] at hm
  by_cases c_6_5 : σ 6 (Int32.toNatClampNeg a1) = (5 : Int32)
  · rw [if_pos c_6_5] at hm
    refine aw_tabIn (off := 92) (tgt := 98) C xd_R_parts_6 (by rw [c_6_5]; decide) (by rw [c_6_5]; decide) (by rw [c_6_5]; rfl) (by decide) ?_
    refine aw_iconst (v := (2 : Int32)) C xd_R_parts_98 (by decide) ?_
    cases hm
    exact aw_iret C xd_R_parts_99
  rw [if_neg c_6_5] at hm
  by_cases c_6_6 : σ 6 (Int32.toNatClampNeg a1) = (6 : Int32)
  · rw [if_pos c_6_6] at hm
    refine aw_tabIn (off := 92) (tgt := 98) C xd_R_parts_6 (by rw [c_6_6]; decide) (by rw [c_6_6]; decide) (by rw [c_6_6]; rfl) (by decide) ?_
    refine aw_iconst (v := (2 : Int32)) C xd_R_parts_98 (by decide) ?_
    cases hm
    exact aw_iret C xd_R_parts_99
  rw [if_neg c_6_6] at hm
  by_cases c_6_7 : σ 6 (Int32.toNatClampNeg a1) = (7 : Int32)
  · rw [if_pos c_6_7] at hm
    refine aw_tabIn (off := 92) (tgt := 98) C xd_R_parts_6 (by rw [c_6_7]; decide) (by rw [c_6_7]; decide) (by rw [c_6_7]; rfl) (by decide) ?_
    refine aw_iconst (v := (2 : Int32)) C xd_R_parts_98 (by decide) ?_
    cases hm
    exact aw_iret C xd_R_parts_99
  rw [if_neg c_6_7] at hm
  by_cases c_6_8 : σ 6 (Int32.toNatClampNeg a1) = (8 : Int32)
  · rw [if_pos c_6_8] at hm
    refine aw_tabIn (off := 92) (tgt := 98) C xd_R_parts_6 (by rw [c_6_8]; decide) (by rw [c_6_8]; decide) (by rw [c_6_8]; rfl) (by decide) ?_
    refine aw_iconst (v := (2 : Int32)) C xd_R_parts_98 (by decide) ?_
    cases hm
    exact aw_iret C xd_R_parts_99
  rw [if_neg c_6_8] at hm
  by_cases c_6_9 : σ 6 (Int32.toNatClampNeg a1) = (9 : Int32)
  · rw [if_pos c_6_9] at hm
    refine aw_tabIn (off := 66) (tgt := 72) C xd_R_parts_6 (by rw [c_6_9]; decide) (by rw [c_6_9]; decide) (by rw [c_6_9]; rfl) (by decide) ?_
    refine aw_iconst (v := (3 : Int32)) C xd_R_parts_72 (by decide) ?_
    cases hm
    exact aw_iret C xd_R_parts_73
  rw [if_neg c_6_9] at hm
  by_cases c_6_10 : σ 6 (Int32.toNatClampNeg a1) = (10 : Int32)
  · rw [if_pos c_6_10] at hm
    refine aw_tabIn (off := 92) (tgt := 98) C xd_R_parts_6 (by rw [c_6_10]; decide) (by rw [c_6_10]; decide) (by rw [c_6_10]; rfl) (by decide) ?_
    refine aw_iconst (v := (2 : Int32)) C xd_R_parts_98 (by decide) ?_
    cases hm
    exact aw_iret C xd_R_parts_99
  rw [if_neg c_6_10] at hm
  by_cases c_6_11 : σ 6 (Int32.toNatClampNeg a1) = (11 : Int32)
  · rw [if_pos c_6_11] at hm
    refine aw_tabIn (off := 68) (tgt := 74) C xd_R_parts_6 (by rw [c_6_11]; decide) (by rw [c_6_11]; decide) (by rw [c_6_11]; rfl) (by decide) ?_
    refine aw_aload_n C 0 xd_R_parts_74 rfl rfl ?_
    refine aw_get C 0 (by decide) rfl rfl (fun w h => List.mem_cons_of_mem _ (xi_R w h)) 3 (by decide) rfl (List.mem_cons_of_mem _ fl_R_19) xd_R_parts_75 ?_
    refine aw_iconst (v := (3 : Int32)) C xd_R_parts_78 (by decide) ?_
    refine aw_bipush (v := (6 : Int32)) C xd_R_parts_79 (by decide) ?_
    refine aw_aload_n C 0 xd_R_parts_81 rfl rfl ?_
    refine aw_get C 0 (by decide) rfl rfl (fun w h => List.mem_cons_of_mem _ (xi_R w h)) 6 (by decide) rfl (List.mem_cons_of_mem _ fl_R_28) xd_R_parts_82 ?_
    refine aw_iload_n C 1 xd_R_parts_85 rfl rfl ?_
    obtain ⟨g_86, hm⟩ := aw_grd hm
    refine aw_iald C 7 (by decide) 0 rfl rfl (aw_in_ok g_86) xd_R_parts_86 ?_
    refine aw_iadd C xd_R_parts_87 ?_
    refine aw_imul C xd_R_parts_88 ?_
    refine aw_aload_n C 0 xd_R_parts_89 rfl rfl ?_
    refine aw_get C 0 (by decide) rfl rfl (fun w h => List.mem_cons_of_mem _ (xi_R w h)) 7 (by decide) rfl (List.mem_cons_of_mem _ fl_R_31) xd_R_parts_90 ?_
    refine aw_iload_n C 1 xd_R_parts_93 rfl rfl ?_
    obtain ⟨g_94, hm⟩ := aw_grd hm
    refine aw_iald C 8 (by decide) 0 rfl rfl (aw_in_ok g_94) xd_R_parts_94 ?_
    refine aw_iadd C xd_R_parts_95 ?_
    obtain ⟨g_96, hm⟩ := aw_grd hm
    refine aw_iald C 4 (by decide) 0 rfl rfl (aw_in_ok g_96) xd_R_parts_96 ?_
    cases hm
    exact aw_iret C xd_R_parts_97
  rw [if_neg c_6_11] at hm
  have t_6_0 := lv_neT c_6_0 (a := 0) (by decide)
  have t_6_1 := lv_neT c_6_1 (a := 1) (by decide)
  have t_6_2 := lv_neT c_6_2 (a := 2) (by decide)
  have t_6_3 := lv_neT c_6_3 (a := 3) (by decide)
  have t_6_4 := lv_neT c_6_4 (a := 4) (by decide)
  have t_6_5 := lv_neT c_6_5 (a := 5) (by decide)
  have t_6_6 := lv_neT c_6_6 (a := 6) (by decide)
  have t_6_7 := lv_neT c_6_7 (a := 7) (by decide)
  have t_6_8 := lv_neT c_6_8 (a := 8) (by decide)
  have t_6_9 := lv_neT c_6_9 (a := 9) (by decide)
  have t_6_10 := lv_neT c_6_10 (a := 10) (by decide)
  have t_6_11 := lv_neT c_6_11 (a := 11) (by decide)
  refine aw_tabOut (tgt := 98) C xd_R_parts_6 (by omega) (by decide) ?_
  refine aw_iconst (v := (2 : Int32)) C xd_R_parts_98 (by decide) ?_
  cases hm
  exact aw_iret C xd_R_parts_99
def xq_R_end_4 (σ : aw_m)  : Nat → Int32 → Int32 → Int32 → Option Int32
  | 0, _, _, _ => none
  | n + 1, v1, v2, v3 => (if v2 ≤ 0 then some v3 else (xm_R_parts σ v3).bind fun q_11 => xq_R_end_4 σ n v1 (v2 + (q_11 - (1 : Int32))) (v3 + (1 : Int32)))
def xm_R_end (σ : aw_m) (a1 : Int32) : Option Int32 := xq_R_end_4 σ 64 a1 (1 : Int32) a1
set_option maxHeartbeats 4000000 in
set_option maxRecDepth 100000 in
theorem xl_R_end_4 (σ : aw_m)  {κ : aw_K} (q : Int32) (C : aw_X l D (ty_z ids) (zs_T ps) (rm_D (1)) xb_R_end 4 "ModuleShelfModel" (xw_R_end :: gw_l) (some .int) (some (.int q)) (rw_w ad ids σ) κ) : ∀ (n : Nat) (v1 : Int32) (v2 : Int32) (v3 : Int32) , xq_R_end_4 σ n v1 v2 v3 = some q → aw_J κ 0 0 (rw_w ad ids σ) [(0, .ref (ad 0)), (1, .int v1), (2, .int v2), (3, .int v3)] 4 [] := by
  intro n
  induction n with
  | zero => intro v1 v2 v3 hm; cases hm
  | succ n ih =>
    intro v1 v2 v3 hm
    rw [xq_R_end_4] at hm
    refine aw_iload_n C 2 xd_R_end_4 rfl rfl ?_
    refine aw_if_le (tgt := 24) C xd_R_end_5 (by decide) (fun c_5 => ?_) (fun c_5 => ?_)
    · rw [if_pos c_5] at hm
      refine aw_iload_n C 3 xd_R_end_24 rfl rfl ?_
      cases hm
      exact aw_iret C xd_R_end_25
    · rw [if_neg c_5] at hm
      refine aw_iload_n C 2 xd_R_end_8 rfl rfl ?_
      refine aw_aload_n C 0 xd_R_end_9 rfl rfl ?_
      refine aw_iload_n C 3 xd_R_end_10 rfl rfl ?_
      obtain ⟨q_11, e_11, hm⟩ := aw_bnd hm
      refine aw_callVi (As := [.int v3]) (rest := [.int v2]) (b := ad 0) C (xc_R_parts σ v3 _  e_11) rfl (gw_sub (gw_V xg_R_parts ml_R_130 im_R_parts se_R_parts wi_R)) na_R_parts (rm_lt (by decide) (by decide)) ⟨Nat.zero_le _, Nat.zero_le _⟩ 0 at_R rfl rfl (Nat.le_of_ble_eq_true rfl) xd_R_end_11 ?_
      refine aw_iconst (v := (1 : Int32)) C xd_R_end_14 (by decide) ?_
      refine aw_isub C xd_R_end_15 ?_
      refine aw_iadd C xd_R_end_16 ?_
      refine aw_istore_n (L' := [(2, .int (v2 + (q_11 - (1 : Int32)))), (0, .ref (ad 0)), (1, .int v1), (3, .int v3)]) C xd_R_end_17 rfl (by decide) rfl ?_
      refine aw_iinc (j := 3) (v := v3 + (1 : Int32)) (L' := [(3, .int (v3 + (1 : Int32))), (2, .int (v2 + (q_11 - (1 : Int32)))), (0, .ref (ad 0)), (1, .int v1)]) C xd_R_end_18 rfl rfl (by decide) rfl ?_
      refine aw_goto (tgt := 4) C xd_R_end_21 (by decide) ?_
      refine aw_loc (L' := [(0, .ref (ad 0)), (1, .int v1), (2, .int (v2 + (q_11 - (1 : Int32)))), (3, .int (v3 + (1 : Int32)))]) C [2, 3, 1, 0] rfl ?_
      exact ih v1 (v2 + (q_11 - (1 : Int32))) (v3 + (1 : Int32))  hm
set_option maxHeartbeats 4000000 in
set_option maxRecDepth 100000 in
theorem xc_R_end (σ : aw_m) (a1 : Int32) (q : Int32)  (hm : xm_R_end σ a1 = some q) : aw_M l D (ty_z ids) (zs_T ps) xy_R_end (xw_R_end :: gw_l) (rm_D (1)) [.ref (ad 0), .int a1] (rw_w ad ids σ) (some (.int q)) (rw_w ad ids σ) := by
  refine aw_intro (cc := xb_R_end) (n := 4) (ret := (some .int)) "ModuleShelfModel" rfl (by decide) rfl (Nat.le_of_ble_eq_true rfl) ?_
  intro κ C
  unfold xm_R_end at hm
  refine aw_iconst (v := (1 : Int32)) C xd_R_end_0 (by decide) ?_
  refine aw_istore_n (L' := [(2, .int (1 : Int32)), (0, .ref (ad 0)), (1, .int a1)]) C xd_R_end_1 rfl (by decide) rfl ?_
  refine aw_iload_n C 2 xd_R_end_2 rfl rfl ?_
  refine aw_istore_n (L' := [(3, .int a1), (2, .int (1 : Int32)), (0, .ref (ad 0)), (1, .int a1)]) C xd_R_end_3 rfl (by decide) rfl ?_
  refine aw_loc (L' := [(0, .ref (ad 0)), (1, .int a1), (2, .int (1 : Int32)), (3, .int a1)]) C [2, 3, 1, 0] rfl ?_
  exact xl_R_end_4 σ _ C 64 a1 (1 : Int32) a1  hm
def xm_R_enter (σ : aw_m) (a1 : Int32) (a2 : Int32) (a3 : Int32) (a4 : Int32) (a5 : Int32) : Option aw_m := if aw_in a1 6 = true then aw_l (aw_p σ 20 (Int32.toNatClampNeg a1) a2) fun s_6 => if aw_in a1 6 = true then aw_l (aw_p s_6 21 (Int32.toNatClampNeg a1) a3) fun s_13 => if aw_in a1 6 = true then aw_l (aw_p s_13 22 (Int32.toNatClampNeg a1) a4) fun s_21 => if aw_in a1 6 = true then aw_l (aw_p s_21 23 (Int32.toNatClampNeg a1) a5) fun s_29 => (xm_R_push s_29 (0 : Int32) (((42 : Int32) * ((6 : Int32) + a2)) + ((14 : Int32) * a3)) a1).bind fun q_45 => some q_45 else none else none else none else none
set_option maxHeartbeats 4000000 in
set_option maxRecDepth 100000 in
theorem xc_R_enter (σ : aw_m) (a1 : Int32) (a2 : Int32) (a3 : Int32) (a4 : Int32) (a5 : Int32) (q : aw_m)  (hm : xm_R_enter σ a1 a2 a3 a4 a5 = some q) : aw_M l D (ty_z ids) (zs_T ps) xy_R_enter (xw_R_enter :: gw_l) (rm_D (1)) [.ref (ad 0), .int a1, .int a2, .int a3, .int a4, .int a5] (rw_w ad ids σ) none (rw_w ad ids q) := by
  refine aw_intro (cc := xb_R_enter) (n := 6) (ret := none) "ModuleShelfModel" rfl (by decide) rfl (Nat.le_of_ble_eq_true rfl) ?_
  intro κ C
  unfold xm_R_enter at hm
  refine aw_aload_n C 0 xd_R_enter_0 rfl rfl ?_
  refine aw_get C 0 (by decide) rfl rfl (fun w h => List.mem_cons_of_mem _ (xi_R w h)) 25 (by decide) rfl (List.mem_cons_of_mem _ fl_R_71) xd_R_enter_1 ?_
  refine aw_iload_n C 1 xd_R_enter_4 rfl rfl ?_
  refine aw_iload_n C 2 xd_R_enter_5 rfl rfl ?_
  obtain ⟨g_6, hm⟩ := aw_grd hm
  obtain ⟨s_6, h_6, hm⟩ := aw_let hm
  refine aw_iast (σ1 := s_6) (g := upd (σ 20) (Int32.toNatClampNeg a1) a2) C 20 (by decide) 0 rfl rfl (aw_in_ok g_6) rfl h_6 xd_R_enter_6 ?_
  refine aw_aload_n C 0 xd_R_enter_7 rfl rfl ?_
  refine aw_get C 0 (by decide) rfl rfl (fun w h => List.mem_cons_of_mem _ (xi_R w h)) 26 (by decide) rfl (List.mem_cons_of_mem _ fl_R_74) xd_R_enter_8 ?_
  refine aw_iload_n C 1 xd_R_enter_11 rfl rfl ?_
  refine aw_iload_n C 3 xd_R_enter_12 rfl rfl ?_
  obtain ⟨g_13, hm⟩ := aw_grd hm
  obtain ⟨s_13, h_13, hm⟩ := aw_let hm
  refine aw_iast (σ1 := s_13) (g := upd (s_6 21) (Int32.toNatClampNeg a1) a3) C 21 (by decide) 0 rfl rfl (aw_in_ok g_13) rfl h_13 xd_R_enter_13 ?_
  refine aw_aload_n C 0 xd_R_enter_14 rfl rfl ?_
  refine aw_get C 0 (by decide) rfl rfl (fun w h => List.mem_cons_of_mem _ (xi_R w h)) 27 (by decide) rfl (List.mem_cons_of_mem _ fl_R_77) xd_R_enter_15 ?_
  refine aw_iload_n C 1 xd_R_enter_18 rfl rfl ?_
  refine aw_iload C 4 xd_R_enter_19 rfl ?_
  obtain ⟨g_21, hm⟩ := aw_grd hm
  obtain ⟨s_21, h_21, hm⟩ := aw_let hm
  refine aw_iast (σ1 := s_21) (g := upd (s_13 22) (Int32.toNatClampNeg a1) a4) C 22 (by decide) 0 rfl rfl (aw_in_ok g_21) rfl h_21 xd_R_enter_21 ?_
  refine aw_aload_n C 0 xd_R_enter_22 rfl rfl ?_
  refine aw_get C 0 (by decide) rfl rfl (fun w h => List.mem_cons_of_mem _ (xi_R w h)) 28 (by decide) rfl (List.mem_cons_of_mem _ fl_R_80) xd_R_enter_23 ?_
  refine aw_iload_n C 1 xd_R_enter_26 rfl rfl ?_
  refine aw_iload C 5 xd_R_enter_27 rfl ?_
  obtain ⟨g_29, hm⟩ := aw_grd hm
  obtain ⟨s_29, h_29, hm⟩ := aw_let hm
  refine aw_iast (σ1 := s_29) (g := upd (s_21 23) (Int32.toNatClampNeg a1) a5) C 23 (by decide) 0 rfl rfl (aw_in_ok g_29) rfl h_29 xd_R_enter_29 ?_
  refine aw_aload_n C 0 xd_R_enter_30 rfl rfl ?_
  refine aw_iconst (v := (0 : Int32)) C xd_R_enter_31 (by decide) ?_
  refine aw_bipush (v := (42 : Int32)) C xd_R_enter_32 (by decide) ?_
  refine aw_bipush (v := (6 : Int32)) C xd_R_enter_34 (by decide) ?_
  refine aw_iload_n C 2 xd_R_enter_36 rfl rfl ?_
  refine aw_iadd C xd_R_enter_37 ?_
  refine aw_imul C xd_R_enter_38 ?_
  refine aw_bipush (v := (14 : Int32)) C xd_R_enter_39 (by decide) ?_
  refine aw_iload_n C 3 xd_R_enter_41 rfl rfl ?_
  refine aw_imul C xd_R_enter_42 ?_
  refine aw_iadd C xd_R_enter_43 ?_
  refine aw_iload_n C 1 xd_R_enter_44 rfl rfl ?_
  obtain ⟨q_45, e_45, hm⟩ := aw_bnd hm
  refine aw_callVv (As := [.int (0 : Int32), .int (((42 : Int32) * ((6 : Int32) + a2)) + ((14 : Int32) * a3)), .int a1]) (rest := []) (b := ad 0) C (xc_R_push s_29 (0 : Int32) (((42 : Int32) * ((6 : Int32) + a2)) + ((14 : Int32) * a3)) a1 _  e_45) rfl (gw_sub (gw_V xg_R_push ml_R_152 im_R_push se_R_push wi_R)) na_R_push (rm_lt (by decide) (by decide)) ⟨Nat.zero_le _, Nat.zero_le _⟩ 0 at_R rfl rfl (Nat.le_of_ble_eq_true rfl) xd_R_enter_45 ?_
  cases hm
  exact aw_vret C xd_R_enter_48
def xm_R_quotient (σ : aw_m) (a0 : Int32) (a1 : Int32) : Option Int32 := (if a1 = 0 then some (0 : Int32) else if ¬ a1 = 0 then some (a0 / a1) else none)
set_option maxHeartbeats 4000000 in
set_option maxRecDepth 100000 in
theorem xc_R_quotient (σ : aw_m) (a0 : Int32) (a1 : Int32) (q : Int32)  (hm : xm_R_quotient σ a0 a1 = some q) : aw_M l D (ty_z ids) (zs_T ps) xy_R_quotient (xw_R_quotient :: gw_l) (rm_D (0)) [.int a0, .int a1] (rw_w ad ids σ) (some (.int q)) (rw_w ad ids σ) := by
  refine aw_intro (cc := xb_R_quotient) (n := 2) (ret := (some .int)) "ModuleShelfModel" rfl (by decide) rfl (Nat.le_of_ble_eq_true rfl) ?_
  intro κ C
  unfold xm_R_quotient at hm
  refine aw_iload_n C 1 xd_R_quotient_0 rfl rfl ?_
  refine aw_if_ne (tgt := 8) C xd_R_quotient_1 (by decide) (fun c_1 => ?_) (fun c_1 => ?_)
  · rw [if_neg c_1] at hm
    refine aw_iload_n C 0 xd_R_quotient_8 rfl rfl ?_
    refine aw_iload_n C 1 xd_R_quotient_9 rfl rfl ?_
    obtain ⟨g_10, hm⟩ := aw_grd hm
    refine aw_idiv C xd_R_quotient_10 g_10 ?_
    cases hm
    exact aw_iret C xd_R_quotient_11
  · rw [if_pos c_1] at hm
    refine aw_iconst (v := (0 : Int32)) C xd_R_quotient_4 (by decide) ?_
    refine aw_goto (tgt := 11) C xd_R_quotient_5 (by decide) ?_
    cases hm
    exact aw_iret C xd_R_quotient_11
def xm_R_use (σ : aw_m) (a1 : Int32) (a2 : Int32) : Option (Int32 × aw_m) := if aw_in a1 546 = true then (xm_R_parts σ a1).bind fun q_9 => (if q_9 = (2 : Int32) then (xm_R_take σ ).bind fun q_21 => (if q_9 ≤ 0 then (if σ 6 (Int32.toNatClampNeg a1) = (11 : Int32) then (if a2 = (5 : Int32) then some ((-9 : Int32), q_21.2) else if aw_in a1 546 = true then if aw_in a1 546 = true then (xm_R_enter q_21.2 (a2 + (1 : Int32)) (q_21.2 7 (Int32.toNatClampNeg a1)) (q_21.2 8 (Int32.toNatClampNeg a1)) (0 : Int32) q_21.1).bind fun q_79 => some ((0 : Int32), q_79) else none else none) else (if σ 6 (Int32.toNatClampNeg a1) = (7 : Int32) then (if q_21.1 = 0 then some ((-8 : Int32), q_21.2) else (if σ 6 (Int32.toNatClampNeg a1) = (3 : Int32) then if aw_in a2 6 = true then if aw_in a1 546 = true then if aw_in (((3 : Int32) * (q_21.2 20 (Int32.toNatClampNeg a2))) + (q_21.2 8 (Int32.toNatClampNeg a1))) 18 = true then aw_l (aw_p q_21.2 12 (Int32.toNatClampNeg (((3 : Int32) * (q_21.2 20 (Int32.toNatClampNeg a2))) + (q_21.2 8 (Int32.toNatClampNeg a1)))) (0 : Int32)) fun s_124 => (if σ 6 (Int32.toNatClampNeg a1) = (3 : Int32) then (xm_R_give s_124 (0 : Int32)).bind fun q_204 => some ((0 : Int32), q_204) else (if σ 6 (Int32.toNatClampNeg a1) = (4 : Int32) then (xm_R_give s_124 ((0 : Int32) + q_21.1)).bind fun q_204 => some ((0 : Int32), q_204) else (if σ 6 (Int32.toNatClampNeg a1) = (5 : Int32) then (xm_R_give s_124 ((0 : Int32) - q_21.1)).bind fun q_204 => some ((0 : Int32), q_204) else (if σ 6 (Int32.toNatClampNeg a1) = (6 : Int32) then (xm_R_give s_124 ((0 : Int32) * q_21.1)).bind fun q_204 => some ((0 : Int32), q_204) else (if σ 6 (Int32.toNatClampNeg a1) = (8 : Int32) then (if q_21.1 ≤ (0 : Int32) then (xm_R_give s_124 (0 : Int32)).bind fun q_204 => some ((0 : Int32), q_204) else (xm_R_give s_124 (1 : Int32)).bind fun q_204 => some ((0 : Int32), q_204)) else (xm_R_quotient s_124 (0 : Int32) q_21.1).bind fun q_201 => (xm_R_give s_124 q_201).bind fun q_204 => some ((0 : Int32), q_204)))))) else none else none else none else (if σ 6 (Int32.toNatClampNeg a1) = (3 : Int32) then (xm_R_give q_21.2 (0 : Int32)).bind fun q_204 => some ((0 : Int32), q_204) else (if σ 6 (Int32.toNatClampNeg a1) = (4 : Int32) then (xm_R_give q_21.2 ((0 : Int32) + q_21.1)).bind fun q_204 => some ((0 : Int32), q_204) else (if σ 6 (Int32.toNatClampNeg a1) = (5 : Int32) then (xm_R_give q_21.2 ((0 : Int32) - q_21.1)).bind fun q_204 => some ((0 : Int32), q_204) else (if σ 6 (Int32.toNatClampNeg a1) = (6 : Int32) then (xm_R_give q_21.2 ((0 : Int32) * q_21.1)).bind fun q_204 => some ((0 : Int32), q_204) else (if σ 6 (Int32.toNatClampNeg a1) = (8 : Int32) then (if q_21.1 ≤ (0 : Int32) then (xm_R_give q_21.2 (0 : Int32)).bind fun q_204 => some ((0 : Int32), q_204) else (xm_R_give q_21.2 (1 : Int32)).bind fun q_204 => some ((0 : Int32), q_204)) else (xm_R_quotient q_21.2 (0 : Int32) q_21.1).bind fun q_201 => (xm_R_give q_21.2 q_201).bind fun q_204 => some ((0 : Int32), q_204)))))))) else (if σ 6 (Int32.toNatClampNeg a1) = (3 : Int32) then if aw_in a2 6 = true then if aw_in a1 546 = true then if aw_in (((3 : Int32) * (q_21.2 20 (Int32.toNatClampNeg a2))) + (q_21.2 8 (Int32.toNatClampNeg a1))) 18 = true then aw_l (aw_p q_21.2 12 (Int32.toNatClampNeg (((3 : Int32) * (q_21.2 20 (Int32.toNatClampNeg a2))) + (q_21.2 8 (Int32.toNatClampNeg a1)))) (0 : Int32)) fun s_124 => (if σ 6 (Int32.toNatClampNeg a1) = (3 : Int32) then (xm_R_give s_124 (0 : Int32)).bind fun q_204 => some ((0 : Int32), q_204) else (if σ 6 (Int32.toNatClampNeg a1) = (4 : Int32) then (xm_R_give s_124 ((0 : Int32) + q_21.1)).bind fun q_204 => some ((0 : Int32), q_204) else (if σ 6 (Int32.toNatClampNeg a1) = (5 : Int32) then (xm_R_give s_124 ((0 : Int32) - q_21.1)).bind fun q_204 => some ((0 : Int32), q_204) else (if σ 6 (Int32.toNatClampNeg a1) = (6 : Int32) then (xm_R_give s_124 ((0 : Int32) * q_21.1)).bind fun q_204 => some ((0 : Int32), q_204) else (if σ 6 (Int32.toNatClampNeg a1) = (8 : Int32) then (if q_21.1 ≤ (0 : Int32) then (xm_R_give s_124 (0 : Int32)).bind fun q_204 => some ((0 : Int32), q_204) else (xm_R_give s_124 (1 : Int32)).bind fun q_204 => some ((0 : Int32), q_204)) else (xm_R_quotient s_124 (0 : Int32) q_21.1).bind fun q_201 => (xm_R_give s_124 q_201).bind fun q_204 => some ((0 : Int32), q_204)))))) else none else none else none else (if σ 6 (Int32.toNatClampNeg a1) = (3 : Int32) then (xm_R_give q_21.2 (0 : Int32)).bind fun q_204 => some ((0 : Int32), q_204) else (if σ 6 (Int32.toNatClampNeg a1) = (4 : Int32) then (xm_R_give q_21.2 ((0 : Int32) + q_21.1)).bind fun q_204 => some ((0 : Int32), q_204) else (if σ 6 (Int32.toNatClampNeg a1) = (5 : Int32) then (xm_R_give q_21.2 ((0 : Int32) - q_21.1)).bind fun q_204 => some ((0 : Int32), q_204) else (if σ 6 (Int32.toNatClampNeg a1) = (6 : Int32) then (xm_R_give q_21.2 ((0 : Int32) * q_21.1)).bind fun q_204 => some ((0 : Int32), q_204) else (if σ 6 (Int32.toNatClampNeg a1) = (8 : Int32) then (if q_21.1 ≤ (0 : Int32) then (xm_R_give q_21.2 (0 : Int32)).bind fun q_204 => some ((0 : Int32), q_204) else (xm_R_give q_21.2 (1 : Int32)).bind fun q_204 => some ((0 : Int32), q_204)) else (xm_R_quotient q_21.2 (0 : Int32) q_21.1).bind fun q_201 => (xm_R_give q_21.2 q_201).bind fun q_204 => some ((0 : Int32), q_204))))))))) else (xm_R_take q_21.2 ).bind fun q_36 => (if σ 6 (Int32.toNatClampNeg a1) = (11 : Int32) then (if a2 = (5 : Int32) then some ((-9 : Int32), q_36.2) else if aw_in a1 546 = true then if aw_in a1 546 = true then (xm_R_enter q_36.2 (a2 + (1 : Int32)) (q_36.2 7 (Int32.toNatClampNeg a1)) (q_36.2 8 (Int32.toNatClampNeg a1)) q_36.1 q_21.1).bind fun q_79 => some ((0 : Int32), q_79) else none else none) else (if σ 6 (Int32.toNatClampNeg a1) = (7 : Int32) then (if q_21.1 = 0 then some ((-8 : Int32), q_36.2) else (if σ 6 (Int32.toNatClampNeg a1) = (3 : Int32) then if aw_in a2 6 = true then if aw_in a1 546 = true then if aw_in (((3 : Int32) * (q_36.2 20 (Int32.toNatClampNeg a2))) + (q_36.2 8 (Int32.toNatClampNeg a1))) 18 = true then aw_l (aw_p q_36.2 12 (Int32.toNatClampNeg (((3 : Int32) * (q_36.2 20 (Int32.toNatClampNeg a2))) + (q_36.2 8 (Int32.toNatClampNeg a1)))) q_36.1) fun s_124 => (if σ 6 (Int32.toNatClampNeg a1) = (3 : Int32) then (xm_R_give s_124 q_36.1).bind fun q_204 => some ((0 : Int32), q_204) else (if σ 6 (Int32.toNatClampNeg a1) = (4 : Int32) then (xm_R_give s_124 (q_36.1 + q_21.1)).bind fun q_204 => some ((0 : Int32), q_204) else (if σ 6 (Int32.toNatClampNeg a1) = (5 : Int32) then (xm_R_give s_124 (q_36.1 - q_21.1)).bind fun q_204 => some ((0 : Int32), q_204) else (if σ 6 (Int32.toNatClampNeg a1) = (6 : Int32) then (xm_R_give s_124 (q_36.1 * q_21.1)).bind fun q_204 => some ((0 : Int32), q_204) else (if σ 6 (Int32.toNatClampNeg a1) = (8 : Int32) then (if q_21.1 ≤ q_36.1 then (xm_R_give s_124 (0 : Int32)).bind fun q_204 => some ((0 : Int32), q_204) else (xm_R_give s_124 (1 : Int32)).bind fun q_204 => some ((0 : Int32), q_204)) else (xm_R_quotient s_124 q_36.1 q_21.1).bind fun q_201 => (xm_R_give s_124 q_201).bind fun q_204 => some ((0 : Int32), q_204)))))) else none else none else none else (if σ 6 (Int32.toNatClampNeg a1) = (3 : Int32) then (xm_R_give q_36.2 q_36.1).bind fun q_204 => some ((0 : Int32), q_204) else (if σ 6 (Int32.toNatClampNeg a1) = (4 : Int32) then (xm_R_give q_36.2 (q_36.1 + q_21.1)).bind fun q_204 => some ((0 : Int32), q_204) else (if σ 6 (Int32.toNatClampNeg a1) = (5 : Int32) then (xm_R_give q_36.2 (q_36.1 - q_21.1)).bind fun q_204 => some ((0 : Int32), q_204) else (if σ 6 (Int32.toNatClampNeg a1) = (6 : Int32) then (xm_R_give q_36.2 (q_36.1 * q_21.1)).bind fun q_204 => some ((0 : Int32), q_204) else (if σ 6 (Int32.toNatClampNeg a1) = (8 : Int32) then (if q_21.1 ≤ q_36.1 then (xm_R_give q_36.2 (0 : Int32)).bind fun q_204 => some ((0 : Int32), q_204) else (xm_R_give q_36.2 (1 : Int32)).bind fun q_204 => some ((0 : Int32), q_204)) else (xm_R_quotient q_36.2 q_36.1 q_21.1).bind fun q_201 => (xm_R_give q_36.2 q_201).bind fun q_204 => some ((0 : Int32), q_204)))))))) else (if σ 6 (Int32.toNatClampNeg a1) = (3 : Int32) then if aw_in a2 6 = true then if aw_in a1 546 = true then if aw_in (((3 : Int32) * (q_36.2 20 (Int32.toNatClampNeg a2))) + (q_36.2 8 (Int32.toNatClampNeg a1))) 18 = true then aw_l (aw_p q_36.2 12 (Int32.toNatClampNeg (((3 : Int32) * (q_36.2 20 (Int32.toNatClampNeg a2))) + (q_36.2 8 (Int32.toNatClampNeg a1)))) q_36.1) fun s_124 => (if σ 6 (Int32.toNatClampNeg a1) = (3 : Int32) then (xm_R_give s_124 q_36.1).bind fun q_204 => some ((0 : Int32), q_204) else (if σ 6 (Int32.toNatClampNeg a1) = (4 : Int32) then (xm_R_give s_124 (q_36.1 + q_21.1)).bind fun q_204 => some ((0 : Int32), q_204) else (if σ 6 (Int32.toNatClampNeg a1) = (5 : Int32) then (xm_R_give s_124 (q_36.1 - q_21.1)).bind fun q_204 => some ((0 : Int32), q_204) else (if σ 6 (Int32.toNatClampNeg a1) = (6 : Int32) then (xm_R_give s_124 (q_36.1 * q_21.1)).bind fun q_204 => some ((0 : Int32), q_204) else (if σ 6 (Int32.toNatClampNeg a1) = (8 : Int32) then (if q_21.1 ≤ q_36.1 then (xm_R_give s_124 (0 : Int32)).bind fun q_204 => some ((0 : Int32), q_204) else (xm_R_give s_124 (1 : Int32)).bind fun q_204 => some ((0 : Int32), q_204)) else (xm_R_quotient s_124 q_36.1 q_21.1).bind fun q_201 => (xm_R_give s_124 q_201).bind fun q_204 => some ((0 : Int32), q_204)))))) else none else none else none else (if σ 6 (Int32.toNatClampNeg a1) = (3 : Int32) then (xm_R_give q_36.2 q_36.1).bind fun q_204 => some ((0 : Int32), q_204) else (if σ 6 (Int32.toNatClampNeg a1) = (4 : Int32) then (xm_R_give q_36.2 (q_36.1 + q_21.1)).bind fun q_204 => some ((0 : Int32), q_204) else (if σ 6 (Int32.toNatClampNeg a1) = (5 : Int32) then (xm_R_give q_36.2 (q_36.1 - q_21.1)).bind fun q_204 => some ((0 : Int32), q_204) else (if σ 6 (Int32.toNatClampNeg a1) = (6 : Int32) then (xm_R_give q_36.2 (q_36.1 * q_21.1)).bind fun q_204 => some ((0 : Int32), q_204) else (if σ 6 (Int32.toNatClampNeg a1) = (8 : Int32) then (if q_21.1 ≤ q_36.1 then (xm_R_give q_36.2 (0 : Int32)).bind fun q_204 => some ((0 : Int32), q_204) else (xm_R_give q_36.2 (1 : Int32)).bind fun q_204 => some ((0 : Int32), q_204)) else (xm_R_quotient q_36.2 q_36.1 q_21.1).bind fun q_201 => (xm_R_give q_36.2 q_201).bind fun q_204 => some ((0 : Int32), q_204)))))))))) else (if q_9 ≤ 0 then (if σ 6 (Int32.toNatClampNeg a1) = (11 : Int32) then (if a2 = (5 : Int32) then some ((-9 : Int32), σ) else if aw_in a1 546 = true then if aw_in a1 546 = true then (xm_R_enter σ (a2 + (1 : Int32)) (σ 7 (Int32.toNatClampNeg a1)) (σ 8 (Int32.toNatClampNeg a1)) (0 : Int32) (0 : Int32)).bind fun q_79 => some ((0 : Int32), q_79) else none else none) else (if σ 6 (Int32.toNatClampNeg a1) = (7 : Int32) then some ((-8 : Int32), σ) else (if σ 6 (Int32.toNatClampNeg a1) = (3 : Int32) then if aw_in a2 6 = true then if aw_in a1 546 = true then if aw_in (((3 : Int32) * (σ 20 (Int32.toNatClampNeg a2))) + (σ 8 (Int32.toNatClampNeg a1))) 18 = true then aw_l (aw_p σ 12 (Int32.toNatClampNeg (((3 : Int32) * (σ 20 (Int32.toNatClampNeg a2))) + (σ 8 (Int32.toNatClampNeg a1)))) (0 : Int32)) fun s_124 => (if σ 6 (Int32.toNatClampNeg a1) = (3 : Int32) then (xm_R_give s_124 (0 : Int32)).bind fun q_204 => some ((0 : Int32), q_204) else (if σ 6 (Int32.toNatClampNeg a1) = (4 : Int32) then (xm_R_give s_124 ((0 : Int32) + (0 : Int32))).bind fun q_204 => some ((0 : Int32), q_204) else (if σ 6 (Int32.toNatClampNeg a1) = (5 : Int32) then (xm_R_give s_124 ((0 : Int32) - (0 : Int32))).bind fun q_204 => some ((0 : Int32), q_204) else (if σ 6 (Int32.toNatClampNeg a1) = (6 : Int32) then (xm_R_give s_124 ((0 : Int32) * (0 : Int32))).bind fun q_204 => some ((0 : Int32), q_204) else (if σ 6 (Int32.toNatClampNeg a1) = (8 : Int32) then (xm_R_give s_124 (0 : Int32)).bind fun q_204 => some ((0 : Int32), q_204) else (xm_R_quotient s_124 (0 : Int32) (0 : Int32)).bind fun q_201 => (xm_R_give s_124 q_201).bind fun q_204 => some ((0 : Int32), q_204)))))) else none else none else none else (if σ 6 (Int32.toNatClampNeg a1) = (3 : Int32) then (xm_R_give σ (0 : Int32)).bind fun q_204 => some ((0 : Int32), q_204) else (if σ 6 (Int32.toNatClampNeg a1) = (4 : Int32) then (xm_R_give σ ((0 : Int32) + (0 : Int32))).bind fun q_204 => some ((0 : Int32), q_204) else (if σ 6 (Int32.toNatClampNeg a1) = (5 : Int32) then (xm_R_give σ ((0 : Int32) - (0 : Int32))).bind fun q_204 => some ((0 : Int32), q_204) else (if σ 6 (Int32.toNatClampNeg a1) = (6 : Int32) then (xm_R_give σ ((0 : Int32) * (0 : Int32))).bind fun q_204 => some ((0 : Int32), q_204) else (if σ 6 (Int32.toNatClampNeg a1) = (8 : Int32) then (xm_R_give σ (0 : Int32)).bind fun q_204 => some ((0 : Int32), q_204) else (xm_R_quotient σ (0 : Int32) (0 : Int32)).bind fun q_201 => (xm_R_give σ q_201).bind fun q_204 => some ((0 : Int32), q_204))))))))) else (xm_R_take σ ).bind fun q_36 => (if σ 6 (Int32.toNatClampNeg a1) = (11 : Int32) then (if a2 = (5 : Int32) then some ((-9 : Int32), q_36.2) else if aw_in a1 546 = true then if aw_in a1 546 = true then (xm_R_enter q_36.2 (a2 + (1 : Int32)) (q_36.2 7 (Int32.toNatClampNeg a1)) (q_36.2 8 (Int32.toNatClampNeg a1)) q_36.1 (0 : Int32)).bind fun q_79 => some ((0 : Int32), q_79) else none else none) else (if σ 6 (Int32.toNatClampNeg a1) = (7 : Int32) then some ((-8 : Int32), q_36.2) else (if σ 6 (Int32.toNatClampNeg a1) = (3 : Int32) then if aw_in a2 6 = true then if aw_in a1 546 = true then if aw_in (((3 : Int32) * (q_36.2 20 (Int32.toNatClampNeg a2))) + (q_36.2 8 (Int32.toNatClampNeg a1))) 18 = true then aw_l (aw_p q_36.2 12 (Int32.toNatClampNeg (((3 : Int32) * (q_36.2 20 (Int32.toNatClampNeg a2))) + (q_36.2 8 (Int32.toNatClampNeg a1)))) q_36.1) fun s_124 => (if σ 6 (Int32.toNatClampNeg a1) = (3 : Int32) then (xm_R_give s_124 q_36.1).bind fun q_204 => some ((0 : Int32), q_204) else (if σ 6 (Int32.toNatClampNeg a1) = (4 : Int32) then (xm_R_give s_124 (q_36.1 + (0 : Int32))).bind fun q_204 => some ((0 : Int32), q_204) else (if σ 6 (Int32.toNatClampNeg a1) = (5 : Int32) then (xm_R_give s_124 (q_36.1 - (0 : Int32))).bind fun q_204 => some ((0 : Int32), q_204) else (if σ 6 (Int32.toNatClampNeg a1) = (6 : Int32) then (xm_R_give s_124 (q_36.1 * (0 : Int32))).bind fun q_204 => some ((0 : Int32), q_204) else (if σ 6 (Int32.toNatClampNeg a1) = (8 : Int32) then (if (0 : Int32) ≤ q_36.1 then (xm_R_give s_124 (0 : Int32)).bind fun q_204 => some ((0 : Int32), q_204) else (xm_R_give s_124 (1 : Int32)).bind fun q_204 => some ((0 : Int32), q_204)) else (xm_R_quotient s_124 q_36.1 (0 : Int32)).bind fun q_201 => (xm_R_give s_124 q_201).bind fun q_204 => some ((0 : Int32), q_204)))))) else none else none else none else (if σ 6 (Int32.toNatClampNeg a1) = (3 : Int32) then (xm_R_give q_36.2 q_36.1).bind fun q_204 => some ((0 : Int32), q_204) else (if σ 6 (Int32.toNatClampNeg a1) = (4 : Int32) then (xm_R_give q_36.2 (q_36.1 + (0 : Int32))).bind fun q_204 => some ((0 : Int32), q_204) else (if σ 6 (Int32.toNatClampNeg a1) = (5 : Int32) then (xm_R_give q_36.2 (q_36.1 - (0 : Int32))).bind fun q_204 => some ((0 : Int32), q_204) else (if σ 6 (Int32.toNatClampNeg a1) = (6 : Int32) then (xm_R_give q_36.2 (q_36.1 * (0 : Int32))).bind fun q_204 => some ((0 : Int32), q_204) else (if σ 6 (Int32.toNatClampNeg a1) = (8 : Int32) then (if (0 : Int32) ≤ q_36.1 then (xm_R_give q_36.2 (0 : Int32)).bind fun q_204 => some ((0 : Int32), q_204) else (xm_R_give q_36.2 (1 : Int32)).bind fun q_204 => some ((0 : Int32), q_204)) else (xm_R_quotient q_36.2 q_36.1 (0 : Int32)).bind fun q_201 => (xm_R_give q_36.2 q_201).bind fun q_204 => some ((0 : Int32), q_204))))))))))) else none
set_option maxHeartbeats 4000000 in
set_option maxRecDepth 100000 in
theorem xc_R_use (σ : aw_m) (a1 : Int32) (a2 : Int32) (q : Int32 × aw_m)  (hm : xm_R_use σ a1 a2 = some q) : aw_M l D (ty_z ids) (zs_T ps) xy_R_use (xw_R_use :: gw_l) (rm_D (2)) [.ref (ad 0), .int a1, .int a2] (rw_w ad ids σ) (some (.int q.1)) (rw_w ad ids q.2) := by
  refine aw_intro (cc := xb_R_use) (n := 7) (ret := (some .int)) "ModuleShelfModel" rfl (by decide) rfl (Nat.le_of_ble_eq_true rfl) ?_
  intro κ C
  unfold xm_R_use at hm
  refine aw_aload_n C 0 xd_R_use_0 rfl rfl ?_
  refine aw_get C 0 (by decide) rfl rfl (fun w h => List.mem_cons_of_mem _ (xi_R w h)) 5 (by decide) rfl (List.mem_cons_of_mem _ fl_R_25) xd_R_use_1 ?_
  refine aw_iload_n C 1 xd_R_use_4 rfl rfl ?_
  obtain ⟨g_5, hm⟩ := aw_grd hm
  refine aw_iald C 6 (by decide) 0 rfl rfl (aw_in_ok g_5) xd_R_use_5 ?_
  refine aw_istore_n (L' := [(3, .int (σ 6 (Int32.toNatClampNeg a1))), (0, .ref (ad 0)), (1, .int a1), (2, .int a2)]) C xd_R_use_6 rfl (by decide) rfl ?_
  refine aw_aload_n C 1 xd_R_use_7 rfl rfl ?_
  refine aw_iload_n C 2 xd_R_use_8 rfl rfl ?_
  obtain ⟨q_9, e_9, hm⟩ := aw_bnd hm
  refine aw_callVi (As := [.int a1]) (rest := []) (b := ad 0) C (xc_R_parts σ a1 _  e_9) rfl (gw_sub (gw_V xg_R_parts ml_R_130 im_R_parts se_R_parts wi_R)) na_R_parts (rm_lt (by decide) (by decide)) ⟨Nat.zero_le _, Nat.zero_le _⟩ 0 at_R rfl rfl (Nat.le_of_ble_eq_true rfl) xd_R_use_9 ?_
  refine aw_istore (L' := [(4, .int q_9), (3, .int (σ 6 (Int32.toNatClampNeg a1))), (0, .ref (ad 0)), (1, .int a1), (2, .int a2)]) C xd_R_use_12 (by decide) rfl ?_
  refine aw_iload C 0 xd_R_use_14 rfl ?_
  refine aw_iconst (v := (2 : Int32)) C xd_R_use_16 (by decide) ?_
  refine aw_icmp_ne (tgt := 27) C xd_R_use_17 (by decide) (fun c_17 => ?_) (fun c_17 => ?_)
  · rw [if_neg c_17] at hm
    refine aw_iconst (v := (0 : Int32)) C xd_R_use_27 (by decide) ?_
    refine aw_istore (L' := [(5, .int (0 : Int32)), (4, .int q_9), (3, .int (σ 6 (Int32.toNatClampNeg a1))), (0, .ref (ad 0)), (1, .int a1), (2, .int a2)]) C xd_R_use_28 (by decide) rfl ?_
    refine aw_iload C 1 xd_R_use_30 rfl ?_
    refine aw_if_le (tgt := 42) C xd_R_use_32 (by decide) (fun c_32 => ?_) (fun c_32 => ?_)
    · rw [if_pos c_32] at hm
      refine aw_iconst (v := (0 : Int32)) C xd_R_use_42 (by decide) ?_
      refine aw_istore (L' := [(6, .int (0 : Int32)), (5, .int (0 : Int32)), (4, .int q_9), (3, .int (σ 6 (Int32.toNatClampNeg a1))), (0, .ref (ad 0)), (1, .int a1), (2, .int a2)]) C xd_R_use_43 (by decide) rfl ?_
      refine aw_iload_n C 3 xd_R_use_45 rfl rfl ?_
      refine aw_bipush (v := (11 : Int32)) C xd_R_use_46 (by decide) ?_
      refine aw_icmp_ne (tgt := 84) C xd_R_use_48 (by decide) (fun c_48 => ?_) (fun c_48 => ?_)
      · rw [if_neg c_48] at hm
        refine aw_iload_n C 3 xd_R_use_84 rfl rfl ?_
        refine aw_bipush (v := (7 : Int32)) C xd_R_use_85 (by decide) ?_
        refine aw_icmp_ne (tgt := 98) C xd_R_use_87 (by decide) (fun c_87 => ?_) (fun c_87 => ?_)
        · rw [if_neg c_87] at hm
          refine aw_iload_n C 3 xd_R_use_98 rfl rfl ?_
          refine aw_iconst (v := (3 : Int32)) C xd_R_use_99 (by decide) ?_
          refine aw_icmp_ne (tgt := 125) C xd_R_use_100 (by decide) (fun c_100 => ?_) (fun c_100 => ?_)
          · rw [if_neg c_100] at hm
            refine aw_aload_n C 4 xd_R_use_125 rfl rfl ?_
            refine aw_iload_n C 3 xd_R_use_126 rfl rfl ?_
            refine aw_iconst (v := (3 : Int32)) C xd_R_use_127 (by decide) ?_
            refine aw_icmp_ne (tgt := 136) C xd_R_use_128 (by decide) (fun c_128 => ?_) (fun c_128 => ?_)
            · rw [if_neg c_128] at hm
              refine aw_iload_n C 3 xd_R_use_136 rfl rfl ?_
              refine aw_iconst (v := (4 : Int32)) C xd_R_use_137 (by decide) ?_
              refine aw_icmp_ne (tgt := 149) C xd_R_use_138 (by decide) (fun c_138 => ?_) (fun c_138 => ?_)
              · rw [if_neg c_138] at hm
                refine aw_iload_n C 3 xd_R_use_149 rfl rfl ?_
                refine aw_iconst (v := (5 : Int32)) C xd_R_use_150 (by decide) ?_
                refine aw_icmp_ne (tgt := 162) C xd_R_use_151 (by decide) (fun c_151 => ?_) (fun c_151 => ?_)
                · rw [if_neg c_151] at hm
                  refine aw_iload_n C 3 xd_R_use_162 rfl rfl ?_
                  refine aw_bipush (v := (6 : Int32)) C xd_R_use_163 (by decide) ?_
                  refine aw_icmp_ne (tgt := 176) C xd_R_use_165 (by decide) (fun c_165 => ?_) (fun c_165 => ?_)
                  · rw [if_neg c_165] at hm
                    refine aw_iload_n C 3 xd_R_use_176 rfl rfl ?_
                    refine aw_bipush (v := (8 : Int32)) C xd_R_use_177 (by decide) ?_
                    refine aw_icmp_ne (tgt := 197) C xd_R_use_179 (by decide) (fun c_179 => ?_) (fun c_179 => ?_)
                    · rw [if_neg c_179] at hm
                      refine aw_iload C 0 xd_R_use_197 rfl ?_
                      refine aw_iload C 1 xd_R_use_199 rfl ?_
                      obtain ⟨q_201, e_201, hm⟩ := aw_bnd hm
                      refine aw_callSi (As := [.int (0 : Int32), .int (0 : Int32)]) (rest := [.ref (ad 0)]) C (xc_R_quotient σ (0 : Int32) (0 : Int32) _  e_201) rfl (gw_sub (gw_S xg_R_quotient ml_R_162 st_R_quotient wi_R)) na_R_quotient (rm_lt (by decide) (by decide)) ⟨Nat.zero_le _, Nat.zero_le _⟩ rfl (Nat.le_of_ble_eq_true rfl) xd_R_use_201 ?_
                      obtain ⟨q_204, e_204, hm⟩ := aw_bnd hm
                      refine aw_callVv (As := [.int q_201]) (rest := []) (b := ad 0) C (xc_R_give σ q_201 _  e_204) rfl (gw_sub (gw_V xg_R_give ml_R_159 im_R_give se_R_give wi_R)) na_R_give (rm_lt (by decide) (by decide)) ⟨Nat.zero_le _, Nat.zero_le _⟩ 0 at_R rfl rfl (Nat.le_of_ble_eq_true rfl) xd_R_use_204 ?_
                      refine aw_iconst (v := (0 : Int32)) C xd_R_use_207 (by decide) ?_
                      cases hm
                      exact aw_iret C xd_R_use_208
                    · rw [if_pos c_179] at hm
                      refine aw_iload C 0 xd_R_use_182 rfl ?_
                      refine aw_iload C 1 xd_R_use_184 rfl ?_
                      refine aw_icmp_ge (tgt := 193) C xd_R_use_186 (by decide) (fun _ => ?_) (fun c_0 => absurd c_0 (by decide))
                      refine aw_iconst (v := (0 : Int32)) C xd_R_use_193 (by decide) ?_
                      refine aw_goto (tgt := 204) C xd_R_use_194 (by decide) ?_
                      obtain ⟨q_204, e_204, hm⟩ := aw_bnd hm
                      refine aw_callVv (As := [.int (0 : Int32)]) (rest := []) (b := ad 0) C (xc_R_give σ (0 : Int32) _  e_204) rfl (gw_sub (gw_V xg_R_give ml_R_159 im_R_give se_R_give wi_R)) na_R_give (rm_lt (by decide) (by decide)) ⟨Nat.zero_le _, Nat.zero_le _⟩ 0 at_R rfl rfl (Nat.le_of_ble_eq_true rfl) xd_R_use_204 ?_
                      refine aw_iconst (v := (0 : Int32)) C xd_R_use_207 (by decide) ?_
                      cases hm
                      exact aw_iret C xd_R_use_208
                  · rw [if_pos c_165] at hm
                    refine aw_iload C 0 xd_R_use_168 rfl ?_
                    refine aw_iload C 1 xd_R_use_170 rfl ?_
                    refine aw_imul C xd_R_use_172 ?_
                    refine aw_goto (tgt := 204) C xd_R_use_173 (by decide) ?_
                    obtain ⟨q_204, e_204, hm⟩ := aw_bnd hm
                    refine aw_callVv (As := [.int ((0 : Int32) * (0 : Int32))]) (rest := []) (b := ad 0) C (xc_R_give σ ((0 : Int32) * (0 : Int32)) _  e_204) rfl (gw_sub (gw_V xg_R_give ml_R_159 im_R_give se_R_give wi_R)) na_R_give (rm_lt (by decide) (by decide)) ⟨Nat.zero_le _, Nat.zero_le _⟩ 0 at_R rfl rfl (Nat.le_of_ble_eq_true rfl) xd_R_use_204 ?_
                    refine aw_iconst (v := (0 : Int32)) C xd_R_use_207 (by decide) ?_
                    cases hm
                    exact aw_iret C xd_R_use_208
                · rw [if_pos c_151] at hm
                  refine aw_iload C 0 xd_R_use_154 rfl ?_
                  refine aw_iload C 1 xd_R_use_156 rfl ?_
                  refine aw_isub C xd_R_use_158 ?_
                  refine aw_goto (tgt := 204) C xd_R_use_159 (by decide) ?_
                  obtain ⟨q_204, e_204, hm⟩ := aw_bnd hm
                  refine aw_callVv (As := [.int ((0 : Int32) - (0 : Int32))]) (rest := []) (b := ad 0) C (xc_R_give σ ((0 : Int32) - (0 : Int32)) _  e_204) rfl (gw_sub (gw_V xg_R_give ml_R_159 im_R_give se_R_give wi_R)) na_R_give (rm_lt (by decide) (by decide)) ⟨Nat.zero_le _, Nat.zero_le _⟩ 0 at_R rfl rfl (Nat.le_of_ble_eq_true rfl) xd_R_use_204 ?_
                  refine aw_iconst (v := (0 : Int32)) C xd_R_use_207 (by decide) ?_
                  cases hm
                  exact aw_iret C xd_R_use_208
              · rw [if_pos c_138] at hm
                refine aw_iload C 0 xd_R_use_141 rfl ?_
                refine aw_iload C 1 xd_R_use_143 rfl ?_
                refine aw_iadd C xd_R_use_145 ?_
                refine aw_goto (tgt := 204) C xd_R_use_146 (by decide) ?_
                obtain ⟨q_204, e_204, hm⟩ := aw_bnd hm
                refine aw_callVv (As := [.int ((0 : Int32) + (0 : Int32))]) (rest := []) (b := ad 0) C (xc_R_give σ ((0 : Int32) + (0 : Int32)) _  e_204) rfl (gw_sub (gw_V xg_R_give ml_R_159 im_R_give se_R_give wi_R)) na_R_give (rm_lt (by decide) (by decide)) ⟨Nat.zero_le _, Nat.zero_le _⟩ 0 at_R rfl rfl (Nat.le_of_ble_eq_true rfl) xd_R_use_204 ?_
                refine aw_iconst (v := (0 : Int32)) C xd_R_use_207 (by decide) ?_
                cases hm
                exact aw_iret C xd_R_use_208
            · rw [if_pos c_128] at hm
              refine aw_iload C 0 xd_R_use_131 rfl ?_
              refine aw_goto (tgt := 204) C xd_R_use_133 (by decide) ?_
              obtain ⟨q_204, e_204, hm⟩ := aw_bnd hm
              refine aw_callVv (As := [.int (0 : Int32)]) (rest := []) (b := ad 0) C (xc_R_give σ (0 : Int32) _  e_204) rfl (gw_sub (gw_V xg_R_give ml_R_159 im_R_give se_R_give wi_R)) na_R_give (rm_lt (by decide) (by decide)) ⟨Nat.zero_le _, Nat.zero_le _⟩ 0 at_R rfl rfl (Nat.le_of_ble_eq_true rfl) xd_R_use_204 ?_
              refine aw_iconst (v := (0 : Int32)) C xd_R_use_207 (by decide) ?_
              cases hm
              exact aw_iret C xd_R_use_208
          · rw [if_pos c_100] at hm
            refine aw_aload_n C 4 xd_R_use_103 rfl rfl ?_
            refine aw_get C 0 (by decide) rfl rfl (fun w h => List.mem_cons_of_mem _ (xi_R w h)) 11 (by decide) rfl (List.mem_cons_of_mem _ fl_R_43) xd_R_use_104 ?_
            refine aw_iconst (v := (3 : Int32)) C xd_R_use_107 (by decide) ?_
            refine aw_aload_n C 4 xd_R_use_108 rfl rfl ?_
            refine aw_get C 0 (by decide) rfl rfl (fun w h => List.mem_cons_of_mem _ (xi_R w h)) 25 (by decide) rfl (List.mem_cons_of_mem _ fl_R_71) xd_R_use_109 ?_
            refine aw_iload_n C 6 xd_R_use_112 rfl rfl ?_
            obtain ⟨g_113, hm⟩ := aw_grd hm
            refine aw_iald C 20 (by decide) 0 rfl rfl (aw_in_ok g_113) xd_R_use_113 ?_
            refine aw_imul C xd_R_use_114 ?_
            refine aw_aload_n C 4 xd_R_use_115 rfl rfl ?_
            refine aw_get C 0 (by decide) rfl rfl (fun w h => List.mem_cons_of_mem _ (xi_R w h)) 7 (by decide) rfl (List.mem_cons_of_mem _ fl_R_31) xd_R_use_116 ?_
            refine aw_iload_n C 5 xd_R_use_119 rfl rfl ?_
            obtain ⟨g_120, hm⟩ := aw_grd hm
            refine aw_iald C 8 (by decide) 0 rfl rfl (aw_in_ok g_120) xd_R_use_120 ?_
            refine aw_iadd C xd_R_use_121 ?_
            refine aw_iload C 0 xd_R_use_122 rfl ?_
            obtain ⟨g_124, hm⟩ := aw_grd hm
            obtain ⟨s_124, h_124, hm⟩ := aw_let hm
            refine aw_iast (σ1 := s_124) (g := upd (σ 12) (Int32.toNatClampNeg (((3 : Int32) * (σ 20 (Int32.toNatClampNeg a2))) + (σ 8 (Int32.toNatClampNeg a1)))) (0 : Int32)) C 12 (by decide) 0 rfl rfl (aw_in_ok g_124) rfl h_124 xd_R_use_124 ?_
            refine aw_aload_n C 4 xd_R_use_125 rfl rfl ?_
            refine aw_iload_n C 3 xd_R_use_126 rfl rfl ?_
            refine aw_iconst (v := (3 : Int32)) C xd_R_use_127 (by decide) ?_
            refine aw_icmp_ne (tgt := 136) C xd_R_use_128 (by decide) (fun c_128 => ?_) (fun c_128 => ?_)
            · rw [if_neg c_128] at hm
              refine aw_iload_n C 3 xd_R_use_136 rfl rfl ?_
              refine aw_iconst (v := (4 : Int32)) C xd_R_use_137 (by decide) ?_
              refine aw_icmp_ne (tgt := 149) C xd_R_use_138 (by decide) (fun c_138 => ?_) (fun c_138 => ?_)
              · rw [if_neg c_138] at hm
                refine aw_iload_n C 3 xd_R_use_149 rfl rfl ?_
                refine aw_iconst (v := (5 : Int32)) C xd_R_use_150 (by decide) ?_
                refine aw_icmp_ne (tgt := 162) C xd_R_use_151 (by decide) (fun c_151 => ?_) (fun c_151 => ?_)
                · rw [if_neg c_151] at hm
                  refine aw_iload_n C 3 xd_R_use_162 rfl rfl ?_
                  refine aw_bipush (v := (6 : Int32)) C xd_R_use_163 (by decide) ?_
                  refine aw_icmp_ne (tgt := 176) C xd_R_use_165 (by decide) (fun c_165 => ?_) (fun c_165 => ?_)
                  · rw [if_neg c_165] at hm
                    refine aw_iload_n C 3 xd_R_use_176 rfl rfl ?_
                    refine aw_bipush (v := (8 : Int32)) C xd_R_use_177 (by decide) ?_
                    refine aw_icmp_ne (tgt := 197) C xd_R_use_179 (by decide) (fun c_179 => ?_) (fun c_179 => ?_)
                    · rw [if_neg c_179] at hm
                      refine aw_iload C 0 xd_R_use_197 rfl ?_
                      refine aw_iload C 1 xd_R_use_199 rfl ?_
                      obtain ⟨q_201, e_201, hm⟩ := aw_bnd hm
                      refine aw_callSi (As := [.int (0 : Int32), .int (0 : Int32)]) (rest := [.ref (ad 0)]) C (xc_R_quotient s_124 (0 : Int32) (0 : Int32) _  e_201) rfl (gw_sub (gw_S xg_R_quotient ml_R_162 st_R_quotient wi_R)) na_R_quotient (rm_lt (by decide) (by decide)) ⟨Nat.zero_le _, Nat.zero_le _⟩ rfl (Nat.le_of_ble_eq_true rfl) xd_R_use_201 ?_
                      obtain ⟨q_204, e_204, hm⟩ := aw_bnd hm
                      refine aw_callVv (As := [.int q_201]) (rest := []) (b := ad 0) C (xc_R_give s_124 q_201 _  e_204) rfl (gw_sub (gw_V xg_R_give ml_R_159 im_R_give se_R_give wi_R)) na_R_give (rm_lt (by decide) (by decide)) ⟨Nat.zero_le _, Nat.zero_le _⟩ 0 at_R rfl rfl (Nat.le_of_ble_eq_true rfl) xd_R_use_204 ?_
                      refine aw_iconst (v := (0 : Int32)) C xd_R_use_207 (by decide) ?_
                      cases hm
                      exact aw_iret C xd_R_use_208
                    · rw [if_pos c_179] at hm
                      refine aw_iload C 0 xd_R_use_182 rfl ?_
                      refine aw_iload C 1 xd_R_use_184 rfl ?_
                      refine aw_icmp_ge (tgt := 193) C xd_R_use_186 (by decide) (fun _ => ?_) (fun c_0 => absurd c_0 (by decide))
                      refine aw_iconst (v := (0 : Int32)) C xd_R_use_193 (by decide) ?_
                      refine aw_goto (tgt := 204) C xd_R_use_194 (by decide) ?_
                      obtain ⟨q_204, e_204, hm⟩ := aw_bnd hm
                      refine aw_callVv (As := [.int (0 : Int32)]) (rest := []) (b := ad 0) C (xc_R_give s_124 (0 : Int32) _  e_204) rfl (gw_sub (gw_V xg_R_give ml_R_159 im_R_give se_R_give wi_R)) na_R_give (rm_lt (by decide) (by decide)) ⟨Nat.zero_le _, Nat.zero_le _⟩ 0 at_R rfl rfl (Nat.le_of_ble_eq_true rfl) xd_R_use_204 ?_
                      refine aw_iconst (v := (0 : Int32)) C xd_R_use_207 (by decide) ?_
                      cases hm
                      exact aw_iret C xd_R_use_208
                  · rw [if_pos c_165] at hm
                    refine aw_iload C 0 xd_R_use_168 rfl ?_
                    refine aw_iload C 1 xd_R_use_170 rfl ?_
                    refine aw_imul C xd_R_use_172 ?_
                    refine aw_goto (tgt := 204) C xd_R_use_173 (by decide) ?_
                    obtain ⟨q_204, e_204, hm⟩ := aw_bnd hm
                    refine aw_callVv (As := [.int ((0 : Int32) * (0 : Int32))]) (rest := []) (b := ad 0) C (xc_R_give s_124 ((0 : Int32) * (0 : Int32)) _  e_204) rfl (gw_sub (gw_V xg_R_give ml_R_159 im_R_give se_R_give wi_R)) na_R_give (rm_lt (by decide) (by decide)) ⟨Nat.zero_le _, Nat.zero_le _⟩ 0 at_R rfl rfl (Nat.le_of_ble_eq_true rfl) xd_R_use_204 ?_
                    refine aw_iconst (v := (0 : Int32)) C xd_R_use_207 (by decide) ?_
                    cases hm
                    exact aw_iret C xd_R_use_208
                · rw [if_pos c_151] at hm
                  refine aw_iload C 0 xd_R_use_154 rfl ?_
                  refine aw_iload C 1 xd_R_use_156 rfl ?_
                  refine aw_isub C xd_R_use_158 ?_
                  refine aw_goto (tgt := 204) C xd_R_use_159 (by decide) ?_
                  obtain ⟨q_204, e_204, hm⟩ := aw_bnd hm
                  refine aw_callVv (As := [.int ((0 : Int32) - (0 : Int32))]) (rest := []) (b := ad 0) C (xc_R_give s_124 ((0 : Int32) - (0 : Int32)) _  e_204) rfl (gw_sub (gw_V xg_R_give ml_R_159 im_R_give se_R_give wi_R)) na_R_give (rm_lt (by decide) (by decide)) ⟨Nat.zero_le _, Nat.zero_le _⟩ 0 at_R rfl rfl (Nat.le_of_ble_eq_true rfl) xd_R_use_204 ?_
                  refine aw_iconst (v := (0 : Int32)) C xd_R_use_207 (by decide) ?_
                  cases hm
                  exact aw_iret C xd_R_use_208
              · rw [if_pos c_138] at hm
                refine aw_iload C 0 xd_R_use_141 rfl ?_
                refine aw_iload C 1 xd_R_use_143 rfl ?_
                refine aw_iadd C xd_R_use_145 ?_
                refine aw_goto (tgt := 204) C xd_R_use_146 (by decide) ?_
                obtain ⟨q_204, e_204, hm⟩ := aw_bnd hm
                refine aw_callVv (As := [.int ((0 : Int32) + (0 : Int32))]) (rest := []) (b := ad 0) C (xc_R_give s_124 ((0 : Int32) + (0 : Int32)) _  e_204) rfl (gw_sub (gw_V xg_R_give ml_R_159 im_R_give se_R_give wi_R)) na_R_give (rm_lt (by decide) (by decide)) ⟨Nat.zero_le _, Nat.zero_le _⟩ 0 at_R rfl rfl (Nat.le_of_ble_eq_true rfl) xd_R_use_204 ?_
                refine aw_iconst (v := (0 : Int32)) C xd_R_use_207 (by decide) ?_
                cases hm
                exact aw_iret C xd_R_use_208
            · rw [if_pos c_128] at hm
              refine aw_iload C 0 xd_R_use_131 rfl ?_
              refine aw_goto (tgt := 204) C xd_R_use_133 (by decide) ?_
              obtain ⟨q_204, e_204, hm⟩ := aw_bnd hm
              refine aw_callVv (As := [.int (0 : Int32)]) (rest := []) (b := ad 0) C (xc_R_give s_124 (0 : Int32) _  e_204) rfl (gw_sub (gw_V xg_R_give ml_R_159 im_R_give se_R_give wi_R)) na_R_give (rm_lt (by decide) (by decide)) ⟨Nat.zero_le _, Nat.zero_le _⟩ 0 at_R rfl rfl (Nat.le_of_ble_eq_true rfl) xd_R_use_204 ?_
              refine aw_iconst (v := (0 : Int32)) C xd_R_use_207 (by decide) ?_
              cases hm
              exact aw_iret C xd_R_use_208
        · rw [if_pos c_87] at hm
          refine aw_iload C 1 xd_R_use_90 rfl ?_
          refine aw_if_ne (tgt := 98) C xd_R_use_92 (by decide) (fun c_0 => absurd c_0 (by decide)) (fun _ => ?_)
          refine aw_bipush (v := (-8 : Int32)) C xd_R_use_95 (by decide) ?_
          cases hm
          exact aw_iret C xd_R_use_97
      · rw [if_pos c_48] at hm
        refine aw_iload_n C 6 xd_R_use_51 rfl rfl ?_
        refine aw_iconst (v := (5 : Int32)) C xd_R_use_52 (by decide) ?_
        refine aw_icmp_ne (tgt := 59) C xd_R_use_53 (by decide) (fun c_53 => ?_) (fun c_53 => ?_)
        · rw [if_neg c_53] at hm
          refine aw_aload_n C 4 xd_R_use_59 rfl rfl ?_
          refine aw_iload_n C 6 xd_R_use_60 rfl rfl ?_
          refine aw_iconst (v := (1 : Int32)) C xd_R_use_61 (by decide) ?_
          refine aw_iadd C xd_R_use_62 ?_
          refine aw_aload_n C 4 xd_R_use_63 rfl rfl ?_
          refine aw_get C 0 (by decide) rfl rfl (fun w h => List.mem_cons_of_mem _ (xi_R w h)) 6 (by decide) rfl (List.mem_cons_of_mem _ fl_R_28) xd_R_use_64 ?_
          refine aw_iload_n C 5 xd_R_use_67 rfl rfl ?_
          obtain ⟨g_68, hm⟩ := aw_grd hm
          refine aw_iald C 7 (by decide) 0 rfl rfl (aw_in_ok g_68) xd_R_use_68 ?_
          refine aw_aload_n C 4 xd_R_use_69 rfl rfl ?_
          refine aw_get C 0 (by decide) rfl rfl (fun w h => List.mem_cons_of_mem _ (xi_R w h)) 7 (by decide) rfl (List.mem_cons_of_mem _ fl_R_31) xd_R_use_70 ?_
          refine aw_iload_n C 5 xd_R_use_73 rfl rfl ?_
          obtain ⟨g_74, hm⟩ := aw_grd hm
          refine aw_iald C 8 (by decide) 0 rfl rfl (aw_in_ok g_74) xd_R_use_74 ?_
          refine aw_iload C 0 xd_R_use_75 rfl ?_
          refine aw_iload C 1 xd_R_use_77 rfl ?_
          obtain ⟨q_79, e_79, hm⟩ := aw_bnd hm
          refine aw_callVv (As := [.int (a2 + (1 : Int32)), .int (σ 7 (Int32.toNatClampNeg a1)), .int (σ 8 (Int32.toNatClampNeg a1)), .int (0 : Int32), .int (0 : Int32)]) (rest := []) (b := ad 0) C (xc_R_enter σ (a2 + (1 : Int32)) (σ 7 (Int32.toNatClampNeg a1)) (σ 8 (Int32.toNatClampNeg a1)) (0 : Int32) (0 : Int32) _  e_79) rfl (gw_sub (gw_V xg_R_enter ml_R_136 im_R_enter se_R_enter wi_R)) na_R_enter (rm_lt (by decide) (by decide)) ⟨Nat.zero_le _, Nat.zero_le _⟩ 0 at_R rfl rfl (Nat.le_of_ble_eq_true rfl) xd_R_use_79 ?_
          refine aw_iconst (v := (0 : Int32)) C xd_R_use_82 (by decide) ?_
          cases hm
          exact aw_iret C xd_R_use_83
        · rw [if_pos c_53] at hm
          refine aw_bipush (v := (-9 : Int32)) C xd_R_use_56 (by decide) ?_
          cases hm
          exact aw_iret C xd_R_use_58
    · rw [if_neg c_32] at hm
      refine aw_aload_n C 3 xd_R_use_35 rfl rfl ?_
      obtain ⟨q_36, e_36, hm⟩ := aw_bnd hm
      refine aw_callVi (As := []) (rest := []) (b := ad 0) C (xc_R_take σ  _  e_36) rfl (gw_sub (gw_V xg_R_take ml_R_146 im_R_take se_R_take wi_R)) na_R_take (rm_lt (by decide) (by decide)) ⟨Nat.zero_le _, Nat.zero_le _⟩ 0 at_R rfl rfl (Nat.le_of_ble_eq_true rfl) xd_R_use_36 ?_
      refine aw_goto (tgt := 43) C xd_R_use_39 (by decide) ?_
      refine aw_istore (L' := [(6, .int q_36.1), (5, .int (0 : Int32)), (4, .int q_9), (3, .int (σ 6 (Int32.toNatClampNeg a1))), (0, .ref (ad 0)), (1, .int a1), (2, .int a2)]) C xd_R_use_43 (by decide) rfl ?_
      refine aw_iload_n C 3 xd_R_use_45 rfl rfl ?_
      refine aw_bipush (v := (11 : Int32)) C xd_R_use_46 (by decide) ?_
      refine aw_icmp_ne (tgt := 84) C xd_R_use_48 (by decide) (fun c_48 => ?_) (fun c_48 => ?_)
      · rw [if_neg c_48] at hm
        refine aw_iload_n C 3 xd_R_use_84 rfl rfl ?_
        refine aw_bipush (v := (7 : Int32)) C xd_R_use_85 (by decide) ?_
        refine aw_icmp_ne (tgt := 98) C xd_R_use_87 (by decide) (fun c_87 => ?_) (fun c_87 => ?_)
        · rw [if_neg c_87] at hm
          refine aw_iload_n C 3 xd_R_use_98 rfl rfl ?_
          refine aw_iconst (v := (3 : Int32)) C xd_R_use_99 (by decide) ?_
          refine aw_icmp_ne (tgt := 125) C xd_R_use_100 (by decide) (fun c_100 => ?_) (fun c_100 => ?_)
          · rw [if_neg c_100] at hm
            refine aw_aload_n C 4 xd_R_use_125 rfl rfl ?_
            refine aw_iload_n C 3 xd_R_use_126 rfl rfl ?_
            refine aw_iconst (v := (3 : Int32)) C xd_R_use_127 (by decide) ?_
            refine aw_icmp_ne (tgt := 136) C xd_R_use_128 (by decide) (fun c_128 => ?_) (fun c_128 => ?_)
            · rw [if_neg c_128] at hm
              refine aw_iload_n C 3 xd_R_use_136 rfl rfl ?_
              refine aw_iconst (v := (4 : Int32)) C xd_R_use_137 (by decide) ?_
              refine aw_icmp_ne (tgt := 149) C xd_R_use_138 (by decide) (fun c_138 => ?_) (fun c_138 => ?_)
              · rw [if_neg c_138] at hm
                refine aw_iload_n C 3 xd_R_use_149 rfl rfl ?_
                refine aw_iconst (v := (5 : Int32)) C xd_R_use_150 (by decide) ?_
                refine aw_icmp_ne (tgt := 162) C xd_R_use_151 (by decide) (fun c_151 => ?_) (fun c_151 => ?_)
                · rw [if_neg c_151] at hm
                  refine aw_iload_n C 3 xd_R_use_162 rfl rfl ?_
                  refine aw_bipush (v := (6 : Int32)) C xd_R_use_163 (by decide) ?_
                  refine aw_icmp_ne (tgt := 176) C xd_R_use_165 (by decide) (fun c_165 => ?_) (fun c_165 => ?_)
                  · rw [if_neg c_165] at hm
                    refine aw_iload_n C 3 xd_R_use_176 rfl rfl ?_
                    refine aw_bipush (v := (8 : Int32)) C xd_R_use_177 (by decide) ?_
                    refine aw_icmp_ne (tgt := 197) C xd_R_use_179 (by decide) (fun c_179 => ?_) (fun c_179 => ?_)
                    · rw [if_neg c_179] at hm
                      refine aw_iload C 0 xd_R_use_197 rfl ?_
                      refine aw_iload C 1 xd_R_use_199 rfl ?_
                      obtain ⟨q_201, e_201, hm⟩ := aw_bnd hm
                      refine aw_callSi (As := [.int q_36.1, .int (0 : Int32)]) (rest := [.ref (ad 0)]) C (xc_R_quotient q_36.2 q_36.1 (0 : Int32) _  e_201) rfl (gw_sub (gw_S xg_R_quotient ml_R_162 st_R_quotient wi_R)) na_R_quotient (rm_lt (by decide) (by decide)) ⟨Nat.zero_le _, Nat.zero_le _⟩ rfl (Nat.le_of_ble_eq_true rfl) xd_R_use_201 ?_
                      obtain ⟨q_204, e_204, hm⟩ := aw_bnd hm
                      refine aw_callVv (As := [.int q_201]) (rest := []) (b := ad 0) C (xc_R_give q_36.2 q_201 _  e_204) rfl (gw_sub (gw_V xg_R_give ml_R_159 im_R_give se_R_give wi_R)) na_R_give (rm_lt (by decide) (by decide)) ⟨Nat.zero_le _, Nat.zero_le _⟩ 0 at_R rfl rfl (Nat.le_of_ble_eq_true rfl) xd_R_use_204 ?_
                      refine aw_iconst (v := (0 : Int32)) C xd_R_use_207 (by decide) ?_
                      cases hm
                      exact aw_iret C xd_R_use_208
                    · rw [if_pos c_179] at hm
                      refine aw_iload C 0 xd_R_use_182 rfl ?_
                      refine aw_iload C 1 xd_R_use_184 rfl ?_
                      refine aw_icmp_ge (tgt := 193) C xd_R_use_186 (by decide) (fun c_186 => ?_) (fun c_186 => ?_)
                      · rw [if_pos c_186] at hm
                        refine aw_iconst (v := (0 : Int32)) C xd_R_use_193 (by decide) ?_
                        refine aw_goto (tgt := 204) C xd_R_use_194 (by decide) ?_
                        obtain ⟨q_204, e_204, hm⟩ := aw_bnd hm
                        refine aw_callVv (As := [.int (0 : Int32)]) (rest := []) (b := ad 0) C (xc_R_give q_36.2 (0 : Int32) _  e_204) rfl (gw_sub (gw_V xg_R_give ml_R_159 im_R_give se_R_give wi_R)) na_R_give (rm_lt (by decide) (by decide)) ⟨Nat.zero_le _, Nat.zero_le _⟩ 0 at_R rfl rfl (Nat.le_of_ble_eq_true rfl) xd_R_use_204 ?_
                        refine aw_iconst (v := (0 : Int32)) C xd_R_use_207 (by decide) ?_
                        cases hm
                        exact aw_iret C xd_R_use_208
                      · rw [if_neg c_186] at hm
                        refine aw_iconst (v := (1 : Int32)) C xd_R_use_189 (by decide) ?_
                        refine aw_goto (tgt := 204) C xd_R_use_190 (by decide) ?_
                        obtain ⟨q_204, e_204, hm⟩ := aw_bnd hm
                        refine aw_callVv (As := [.int (1 : Int32)]) (rest := []) (b := ad 0) C (xc_R_give q_36.2 (1 : Int32) _  e_204) rfl (gw_sub (gw_V xg_R_give ml_R_159 im_R_give se_R_give wi_R)) na_R_give (rm_lt (by decide) (by decide)) ⟨Nat.zero_le _, Nat.zero_le _⟩ 0 at_R rfl rfl (Nat.le_of_ble_eq_true rfl) xd_R_use_204 ?_
                        refine aw_iconst (v := (0 : Int32)) C xd_R_use_207 (by decide) ?_
                        cases hm
                        exact aw_iret C xd_R_use_208
                  · rw [if_pos c_165] at hm
                    refine aw_iload C 0 xd_R_use_168 rfl ?_
                    refine aw_iload C 1 xd_R_use_170 rfl ?_
                    refine aw_imul C xd_R_use_172 ?_
                    refine aw_goto (tgt := 204) C xd_R_use_173 (by decide) ?_
                    obtain ⟨q_204, e_204, hm⟩ := aw_bnd hm
                    refine aw_callVv (As := [.int (q_36.1 * (0 : Int32))]) (rest := []) (b := ad 0) C (xc_R_give q_36.2 (q_36.1 * (0 : Int32)) _  e_204) rfl (gw_sub (gw_V xg_R_give ml_R_159 im_R_give se_R_give wi_R)) na_R_give (rm_lt (by decide) (by decide)) ⟨Nat.zero_le _, Nat.zero_le _⟩ 0 at_R rfl rfl (Nat.le_of_ble_eq_true rfl) xd_R_use_204 ?_
                    refine aw_iconst (v := (0 : Int32)) C xd_R_use_207 (by decide) ?_
                    cases hm
                    exact aw_iret C xd_R_use_208
                · rw [if_pos c_151] at hm
                  refine aw_iload C 0 xd_R_use_154 rfl ?_
                  refine aw_iload C 1 xd_R_use_156 rfl ?_
                  refine aw_isub C xd_R_use_158 ?_
                  refine aw_goto (tgt := 204) C xd_R_use_159 (by decide) ?_
                  obtain ⟨q_204, e_204, hm⟩ := aw_bnd hm
                  refine aw_callVv (As := [.int (q_36.1 - (0 : Int32))]) (rest := []) (b := ad 0) C (xc_R_give q_36.2 (q_36.1 - (0 : Int32)) _  e_204) rfl (gw_sub (gw_V xg_R_give ml_R_159 im_R_give se_R_give wi_R)) na_R_give (rm_lt (by decide) (by decide)) ⟨Nat.zero_le _, Nat.zero_le _⟩ 0 at_R rfl rfl (Nat.le_of_ble_eq_true rfl) xd_R_use_204 ?_
                  refine aw_iconst (v := (0 : Int32)) C xd_R_use_207 (by decide) ?_
                  cases hm
                  exact aw_iret C xd_R_use_208
              · rw [if_pos c_138] at hm
                refine aw_iload C 0 xd_R_use_141 rfl ?_
                refine aw_iload C 1 xd_R_use_143 rfl ?_
                refine aw_iadd C xd_R_use_145 ?_
                refine aw_goto (tgt := 204) C xd_R_use_146 (by decide) ?_
                obtain ⟨q_204, e_204, hm⟩ := aw_bnd hm
                refine aw_callVv (As := [.int (q_36.1 + (0 : Int32))]) (rest := []) (b := ad 0) C (xc_R_give q_36.2 (q_36.1 + (0 : Int32)) _  e_204) rfl (gw_sub (gw_V xg_R_give ml_R_159 im_R_give se_R_give wi_R)) na_R_give (rm_lt (by decide) (by decide)) ⟨Nat.zero_le _, Nat.zero_le _⟩ 0 at_R rfl rfl (Nat.le_of_ble_eq_true rfl) xd_R_use_204 ?_
                refine aw_iconst (v := (0 : Int32)) C xd_R_use_207 (by decide) ?_
                cases hm
                exact aw_iret C xd_R_use_208
            · rw [if_pos c_128] at hm
              refine aw_iload C 0 xd_R_use_131 rfl ?_
              refine aw_goto (tgt := 204) C xd_R_use_133 (by decide) ?_
              obtain ⟨q_204, e_204, hm⟩ := aw_bnd hm
              refine aw_callVv (As := [.int q_36.1]) (rest := []) (b := ad 0) C (xc_R_give q_36.2 q_36.1 _  e_204) rfl (gw_sub (gw_V xg_R_give ml_R_159 im_R_give se_R_give wi_R)) na_R_give (rm_lt (by decide) (by decide)) ⟨Nat.zero_le _, Nat.zero_le _⟩ 0 at_R rfl rfl (Nat.le_of_ble_eq_true rfl) xd_R_use_204 ?_
              refine aw_iconst (v := (0 : Int32)) C xd_R_use_207 (by decide) ?_
              cases hm
              exact aw_iret C xd_R_use_208
          · rw [if_pos c_100] at hm
            refine aw_aload_n C 4 xd_R_use_103 rfl rfl ?_
            refine aw_get C 0 (by decide) rfl rfl (fun w h => List.mem_cons_of_mem _ (xi_R w h)) 11 (by decide) rfl (List.mem_cons_of_mem _ fl_R_43) xd_R_use_104 ?_
            refine aw_iconst (v := (3 : Int32)) C xd_R_use_107 (by decide) ?_
            refine aw_aload_n C 4 xd_R_use_108 rfl rfl ?_
            refine aw_get C 0 (by decide) rfl rfl (fun w h => List.mem_cons_of_mem _ (xi_R w h)) 25 (by decide) rfl (List.mem_cons_of_mem _ fl_R_71) xd_R_use_109 ?_
            refine aw_iload_n C 6 xd_R_use_112 rfl rfl ?_
            obtain ⟨g_113, hm⟩ := aw_grd hm
            refine aw_iald C 20 (by decide) 0 rfl rfl (aw_in_ok g_113) xd_R_use_113 ?_
            refine aw_imul C xd_R_use_114 ?_
            refine aw_aload_n C 4 xd_R_use_115 rfl rfl ?_
            refine aw_get C 0 (by decide) rfl rfl (fun w h => List.mem_cons_of_mem _ (xi_R w h)) 7 (by decide) rfl (List.mem_cons_of_mem _ fl_R_31) xd_R_use_116 ?_
            refine aw_iload_n C 5 xd_R_use_119 rfl rfl ?_
            obtain ⟨g_120, hm⟩ := aw_grd hm
            refine aw_iald C 8 (by decide) 0 rfl rfl (aw_in_ok g_120) xd_R_use_120 ?_
            refine aw_iadd C xd_R_use_121 ?_
            refine aw_iload C 0 xd_R_use_122 rfl ?_
            obtain ⟨g_124, hm⟩ := aw_grd hm
            obtain ⟨s_124, h_124, hm⟩ := aw_let hm
            refine aw_iast (σ1 := s_124) (g := upd (q_36.2 12) (Int32.toNatClampNeg (((3 : Int32) * (q_36.2 20 (Int32.toNatClampNeg a2))) + (q_36.2 8 (Int32.toNatClampNeg a1)))) q_36.1) C 12 (by decide) 0 rfl rfl (aw_in_ok g_124) rfl h_124 xd_R_use_124 ?_
            refine aw_aload_n C 4 xd_R_use_125 rfl rfl ?_
            refine aw_iload_n C 3 xd_R_use_126 rfl rfl ?_
            refine aw_iconst (v := (3 : Int32)) C xd_R_use_127 (by decide) ?_
            refine aw_icmp_ne (tgt := 136) C xd_R_use_128 (by decide) (fun c_128 => ?_) (fun c_128 => ?_)
            · rw [if_neg c_128] at hm
              refine aw_iload_n C 3 xd_R_use_136 rfl rfl ?_
              refine aw_iconst (v := (4 : Int32)) C xd_R_use_137 (by decide) ?_
              refine aw_icmp_ne (tgt := 149) C xd_R_use_138 (by decide) (fun c_138 => ?_) (fun c_138 => ?_)
              · rw [if_neg c_138] at hm
                refine aw_iload_n C 3 xd_R_use_149 rfl rfl ?_
                refine aw_iconst (v := (5 : Int32)) C xd_R_use_150 (by decide) ?_
                refine aw_icmp_ne (tgt := 162) C xd_R_use_151 (by decide) (fun c_151 => ?_) (fun c_151 => ?_)
                · rw [if_neg c_151] at hm
                  refine aw_iload_n C 3 xd_R_use_162 rfl rfl ?_
                  refine aw_bipush (v := (6 : Int32)) C xd_R_use_163 (by decide) ?_
                  refine aw_icmp_ne (tgt := 176) C xd_R_use_165 (by decide) (fun c_165 => ?_) (fun c_165 => ?_)
                  · rw [if_neg c_165] at hm
                    refine aw_iload_n C 3 xd_R_use_176 rfl rfl ?_
                    refine aw_bipush (v := (8 : Int32)) C xd_R_use_177 (by decide) ?_
                    refine aw_icmp_ne (tgt := 197) C xd_R_use_179 (by decide) (fun c_179 => ?_) (fun c_179 => ?_)
                    · rw [if_neg c_179] at hm
                      refine aw_iload C 0 xd_R_use_197 rfl ?_
                      refine aw_iload C 1 xd_R_use_199 rfl ?_
                      obtain ⟨q_201, e_201, hm⟩ := aw_bnd hm
                      refine aw_callSi (As := [.int q_36.1, .int (0 : Int32)]) (rest := [.ref (ad 0)]) C (xc_R_quotient s_124 q_36.1 (0 : Int32) _  e_201) rfl (gw_sub (gw_S xg_R_quotient ml_R_162 st_R_quotient wi_R)) na_R_quotient (rm_lt (by decide) (by decide)) ⟨Nat.zero_le _, Nat.zero_le _⟩ rfl (Nat.le_of_ble_eq_true rfl) xd_R_use_201 ?_
                      obtain ⟨q_204, e_204, hm⟩ := aw_bnd hm
                      refine aw_callVv (As := [.int q_201]) (rest := []) (b := ad 0) C (xc_R_give s_124 q_201 _  e_204) rfl (gw_sub (gw_V xg_R_give ml_R_159 im_R_give se_R_give wi_R)) na_R_give (rm_lt (by decide) (by decide)) ⟨Nat.zero_le _, Nat.zero_le _⟩ 0 at_R rfl rfl (Nat.le_of_ble_eq_true rfl) xd_R_use_204 ?_
                      refine aw_iconst (v := (0 : Int32)) C xd_R_use_207 (by decide) ?_
                      cases hm
                      exact aw_iret C xd_R_use_208
                    · rw [if_pos c_179] at hm
                      refine aw_iload C 0 xd_R_use_182 rfl ?_
                      refine aw_iload C 1 xd_R_use_184 rfl ?_
                      refine aw_icmp_ge (tgt := 193) C xd_R_use_186 (by decide) (fun c_186 => ?_) (fun c_186 => ?_)
                      · rw [if_pos c_186] at hm
                        refine aw_iconst (v := (0 : Int32)) C xd_R_use_193 (by decide) ?_
                        refine aw_goto (tgt := 204) C xd_R_use_194 (by decide) ?_
                        obtain ⟨q_204, e_204, hm⟩ := aw_bnd hm
                        refine aw_callVv (As := [.int (0 : Int32)]) (rest := []) (b := ad 0) C (xc_R_give s_124 (0 : Int32) _  e_204) rfl (gw_sub (gw_V xg_R_give ml_R_159 im_R_give se_R_give wi_R)) na_R_give (rm_lt (by decide) (by decide)) ⟨Nat.zero_le _, Nat.zero_le _⟩ 0 at_R rfl rfl (Nat.le_of_ble_eq_true rfl) xd_R_use_204 ?_
                        refine aw_iconst (v := (0 : Int32)) C xd_R_use_207 (by decide) ?_
                        cases hm
                        exact aw_iret C xd_R_use_208
                      · rw [if_neg c_186] at hm
                        refine aw_iconst (v := (1 : Int32)) C xd_R_use_189 (by decide) ?_
                        refine aw_goto (tgt := 204) C xd_R_use_190 (by decide) ?_
                        obtain ⟨q_204, e_204, hm⟩ := aw_bnd hm
                        refine aw_callVv (As := [.int (1 : Int32)]) (rest := []) (b := ad 0) C (xc_R_give s_124 (1 : Int32) _  e_204) rfl (gw_sub (gw_V xg_R_give ml_R_159 im_R_give se_R_give wi_R)) na_R_give (rm_lt (by decide) (by decide)) ⟨Nat.zero_le _, Nat.zero_le _⟩ 0 at_R rfl rfl (Nat.le_of_ble_eq_true rfl) xd_R_use_204 ?_
                        refine aw_iconst (v := (0 : Int32)) C xd_R_use_207 (by decide) ?_
                        cases hm
                        exact aw_iret C xd_R_use_208
                  · rw [if_pos c_165] at hm
                    refine aw_iload C 0 xd_R_use_168 rfl ?_
                    refine aw_iload C 1 xd_R_use_170 rfl ?_
                    refine aw_imul C xd_R_use_172 ?_
                    refine aw_goto (tgt := 204) C xd_R_use_173 (by decide) ?_
                    obtain ⟨q_204, e_204, hm⟩ := aw_bnd hm
                    refine aw_callVv (As := [.int (q_36.1 * (0 : Int32))]) (rest := []) (b := ad 0) C (xc_R_give s_124 (q_36.1 * (0 : Int32)) _  e_204) rfl (gw_sub (gw_V xg_R_give ml_R_159 im_R_give se_R_give wi_R)) na_R_give (rm_lt (by decide) (by decide)) ⟨Nat.zero_le _, Nat.zero_le _⟩ 0 at_R rfl rfl (Nat.le_of_ble_eq_true rfl) xd_R_use_204 ?_
                    refine aw_iconst (v := (0 : Int32)) C xd_R_use_207 (by decide) ?_
                    cases hm
                    exact aw_iret C xd_R_use_208
                · rw [if_pos c_151] at hm
                  refine aw_iload C 0 xd_R_use_154 rfl ?_
                  refine aw_iload C 1 xd_R_use_156 rfl ?_
                  refine aw_isub C xd_R_use_158 ?_
                  refine aw_goto (tgt := 204) C xd_R_use_159 (by decide) ?_
                  obtain ⟨q_204, e_204, hm⟩ := aw_bnd hm
                  refine aw_callVv (As := [.int (q_36.1 - (0 : Int32))]) (rest := []) (b := ad 0) C (xc_R_give s_124 (q_36.1 - (0 : Int32)) _  e_204) rfl (gw_sub (gw_V xg_R_give ml_R_159 im_R_give se_R_give wi_R)) na_R_give (rm_lt (by decide) (by decide)) ⟨Nat.zero_le _, Nat.zero_le _⟩ 0 at_R rfl rfl (Nat.le_of_ble_eq_true rfl) xd_R_use_204 ?_
                  refine aw_iconst (v := (0 : Int32)) C xd_R_use_207 (by decide) ?_
                  cases hm
                  exact aw_iret C xd_R_use_208
              · rw [if_pos c_138] at hm
                refine aw_iload C 0 xd_R_use_141 rfl ?_
                refine aw_iload C 1 xd_R_use_143 rfl ?_
                refine aw_iadd C xd_R_use_145 ?_
                refine aw_goto (tgt := 204) C xd_R_use_146 (by decide) ?_
                obtain ⟨q_204, e_204, hm⟩ := aw_bnd hm
                refine aw_callVv (As := [.int (q_36.1 + (0 : Int32))]) (rest := []) (b := ad 0) C (xc_R_give s_124 (q_36.1 + (0 : Int32)) _  e_204) rfl (gw_sub (gw_V xg_R_give ml_R_159 im_R_give se_R_give wi_R)) na_R_give (rm_lt (by decide) (by decide)) ⟨Nat.zero_le _, Nat.zero_le _⟩ 0 at_R rfl rfl (Nat.le_of_ble_eq_true rfl) xd_R_use_204 ?_
                refine aw_iconst (v := (0 : Int32)) C xd_R_use_207 (by decide) ?_
                cases hm
                exact aw_iret C xd_R_use_208
            · rw [if_pos c_128] at hm
              refine aw_iload C 0 xd_R_use_131 rfl ?_
              refine aw_goto (tgt := 204) C xd_R_use_133 (by decide) ?_
              obtain ⟨q_204, e_204, hm⟩ := aw_bnd hm
              refine aw_callVv (As := [.int q_36.1]) (rest := []) (b := ad 0) C (xc_R_give s_124 q_36.1 _  e_204) rfl (gw_sub (gw_V xg_R_give ml_R_159 im_R_give se_R_give wi_R)) na_R_give (rm_lt (by decide) (by decide)) ⟨Nat.zero_le _, Nat.zero_le _⟩ 0 at_R rfl rfl (Nat.le_of_ble_eq_true rfl) xd_R_use_204 ?_
              refine aw_iconst (v := (0 : Int32)) C xd_R_use_207 (by decide) ?_
              cases hm
              exact aw_iret C xd_R_use_208
        · rw [if_pos c_87] at hm
          refine aw_iload C 1 xd_R_use_90 rfl ?_
          refine aw_if_ne (tgt := 98) C xd_R_use_92 (by decide) (fun c_0 => absurd c_0 (by decide)) (fun _ => ?_)
          refine aw_bipush (v := (-8 : Int32)) C xd_R_use_95 (by decide) ?_
          cases hm
          exact aw_iret C xd_R_use_97
      · rw [if_pos c_48] at hm
        refine aw_iload_n C 6 xd_R_use_51 rfl rfl ?_
        refine aw_iconst (v := (5 : Int32)) C xd_R_use_52 (by decide) ?_
        refine aw_icmp_ne (tgt := 59) C xd_R_use_53 (by decide) (fun c_53 => ?_) (fun c_53 => ?_)
        · rw [if_neg c_53] at hm
          refine aw_aload_n C 4 xd_R_use_59 rfl rfl ?_
          refine aw_iload_n C 6 xd_R_use_60 rfl rfl ?_
          refine aw_iconst (v := (1 : Int32)) C xd_R_use_61 (by decide) ?_
          refine aw_iadd C xd_R_use_62 ?_
          refine aw_aload_n C 4 xd_R_use_63 rfl rfl ?_
          refine aw_get C 0 (by decide) rfl rfl (fun w h => List.mem_cons_of_mem _ (xi_R w h)) 6 (by decide) rfl (List.mem_cons_of_mem _ fl_R_28) xd_R_use_64 ?_
          refine aw_iload_n C 5 xd_R_use_67 rfl rfl ?_
          obtain ⟨g_68, hm⟩ := aw_grd hm
          refine aw_iald C 7 (by decide) 0 rfl rfl (aw_in_ok g_68) xd_R_use_68 ?_
          refine aw_aload_n C 4 xd_R_use_69 rfl rfl ?_
          refine aw_get C 0 (by decide) rfl rfl (fun w h => List.mem_cons_of_mem _ (xi_R w h)) 7 (by decide) rfl (List.mem_cons_of_mem _ fl_R_31) xd_R_use_70 ?_
          refine aw_iload_n C 5 xd_R_use_73 rfl rfl ?_
          obtain ⟨g_74, hm⟩ := aw_grd hm
          refine aw_iald C 8 (by decide) 0 rfl rfl (aw_in_ok g_74) xd_R_use_74 ?_
          refine aw_iload C 0 xd_R_use_75 rfl ?_
          refine aw_iload C 1 xd_R_use_77 rfl ?_
          obtain ⟨q_79, e_79, hm⟩ := aw_bnd hm
          refine aw_callVv (As := [.int (a2 + (1 : Int32)), .int (q_36.2 7 (Int32.toNatClampNeg a1)), .int (q_36.2 8 (Int32.toNatClampNeg a1)), .int q_36.1, .int (0 : Int32)]) (rest := []) (b := ad 0) C (xc_R_enter q_36.2 (a2 + (1 : Int32)) (q_36.2 7 (Int32.toNatClampNeg a1)) (q_36.2 8 (Int32.toNatClampNeg a1)) q_36.1 (0 : Int32) _  e_79) rfl (gw_sub (gw_V xg_R_enter ml_R_136 im_R_enter se_R_enter wi_R)) na_R_enter (rm_lt (by decide) (by decide)) ⟨Nat.zero_le _, Nat.zero_le _⟩ 0 at_R rfl rfl (Nat.le_of_ble_eq_true rfl) xd_R_use_79 ?_
          refine aw_iconst (v := (0 : Int32)) C xd_R_use_82 (by decide) ?_
          cases hm
          exact aw_iret C xd_R_use_83
        · rw [if_pos c_53] at hm
          refine aw_bipush (v := (-9 : Int32)) C xd_R_use_56 (by decide) ?_
          cases hm
          exact aw_iret C xd_R_use_58
  · rw [if_pos c_17] at hm
    refine aw_aload_n C 2 xd_R_use_20 rfl rfl ?_
    obtain ⟨q_21, e_21, hm⟩ := aw_bnd hm
    refine aw_callVi (As := []) (rest := []) (b := ad 0) C (xc_R_take σ  _  e_21) rfl (gw_sub (gw_V xg_R_take ml_R_146 im_R_take se_R_take wi_R)) na_R_take (rm_lt (by decide) (by decide)) ⟨Nat.zero_le _, Nat.zero_le _⟩ 0 at_R rfl rfl (Nat.le_of_ble_eq_true rfl) xd_R_use_21 ?_
    refine aw_goto (tgt := 28) C xd_R_use_24 (by decide) ?_
    refine aw_istore (L' := [(5, .int q_21.1), (4, .int q_9), (3, .int (σ 6 (Int32.toNatClampNeg a1))), (0, .ref (ad 0)), (1, .int a1), (2, .int a2)]) C xd_R_use_28 (by decide) rfl ?_
    refine aw_iload C 1 xd_R_use_30 rfl ?_
    refine aw_if_le (tgt := 42) C xd_R_use_32 (by decide) (fun c_32 => ?_) (fun c_32 => ?_)
    · rw [if_pos c_32] at hm
      refine aw_iconst (v := (0 : Int32)) C xd_R_use_42 (by decide) ?_
      refine aw_istore (L' := [(6, .int (0 : Int32)), (5, .int q_21.1), (4, .int q_9), (3, .int (σ 6 (Int32.toNatClampNeg a1))), (0, .ref (ad 0)), (1, .int a1), (2, .int a2)]) C xd_R_use_43 (by decide) rfl ?_
      refine aw_iload_n C 3 xd_R_use_45 rfl rfl ?_
      refine aw_bipush (v := (11 : Int32)) C xd_R_use_46 (by decide) ?_
      refine aw_icmp_ne (tgt := 84) C xd_R_use_48 (by decide) (fun c_48 => ?_) (fun c_48 => ?_)
      · rw [if_neg c_48] at hm
        refine aw_iload_n C 3 xd_R_use_84 rfl rfl ?_
        refine aw_bipush (v := (7 : Int32)) C xd_R_use_85 (by decide) ?_
        refine aw_icmp_ne (tgt := 98) C xd_R_use_87 (by decide) (fun c_87 => ?_) (fun c_87 => ?_)
        · rw [if_neg c_87] at hm
          refine aw_iload_n C 3 xd_R_use_98 rfl rfl ?_
          refine aw_iconst (v := (3 : Int32)) C xd_R_use_99 (by decide) ?_
          refine aw_icmp_ne (tgt := 125) C xd_R_use_100 (by decide) (fun c_100 => ?_) (fun c_100 => ?_)
          · rw [if_neg c_100] at hm
            refine aw_aload_n C 4 xd_R_use_125 rfl rfl ?_
            refine aw_iload_n C 3 xd_R_use_126 rfl rfl ?_
            refine aw_iconst (v := (3 : Int32)) C xd_R_use_127 (by decide) ?_
            refine aw_icmp_ne (tgt := 136) C xd_R_use_128 (by decide) (fun c_128 => ?_) (fun c_128 => ?_)
            · rw [if_neg c_128] at hm
              refine aw_iload_n C 3 xd_R_use_136 rfl rfl ?_
              refine aw_iconst (v := (4 : Int32)) C xd_R_use_137 (by decide) ?_
              refine aw_icmp_ne (tgt := 149) C xd_R_use_138 (by decide) (fun c_138 => ?_) (fun c_138 => ?_)
              · rw [if_neg c_138] at hm
                refine aw_iload_n C 3 xd_R_use_149 rfl rfl ?_
                refine aw_iconst (v := (5 : Int32)) C xd_R_use_150 (by decide) ?_
                refine aw_icmp_ne (tgt := 162) C xd_R_use_151 (by decide) (fun c_151 => ?_) (fun c_151 => ?_)
                · rw [if_neg c_151] at hm
                  refine aw_iload_n C 3 xd_R_use_162 rfl rfl ?_
                  refine aw_bipush (v := (6 : Int32)) C xd_R_use_163 (by decide) ?_
                  refine aw_icmp_ne (tgt := 176) C xd_R_use_165 (by decide) (fun c_165 => ?_) (fun c_165 => ?_)
                  · rw [if_neg c_165] at hm
                    refine aw_iload_n C 3 xd_R_use_176 rfl rfl ?_
                    refine aw_bipush (v := (8 : Int32)) C xd_R_use_177 (by decide) ?_
                    refine aw_icmp_ne (tgt := 197) C xd_R_use_179 (by decide) (fun c_179 => ?_) (fun c_179 => ?_)
                    · rw [if_neg c_179] at hm
                      refine aw_iload C 0 xd_R_use_197 rfl ?_
                      refine aw_iload C 1 xd_R_use_199 rfl ?_
                      obtain ⟨q_201, e_201, hm⟩ := aw_bnd hm
                      refine aw_callSi (As := [.int (0 : Int32), .int q_21.1]) (rest := [.ref (ad 0)]) C (xc_R_quotient q_21.2 (0 : Int32) q_21.1 _  e_201) rfl (gw_sub (gw_S xg_R_quotient ml_R_162 st_R_quotient wi_R)) na_R_quotient (rm_lt (by decide) (by decide)) ⟨Nat.zero_le _, Nat.zero_le _⟩ rfl (Nat.le_of_ble_eq_true rfl) xd_R_use_201 ?_
                      obtain ⟨q_204, e_204, hm⟩ := aw_bnd hm
                      refine aw_callVv (As := [.int q_201]) (rest := []) (b := ad 0) C (xc_R_give q_21.2 q_201 _  e_204) rfl (gw_sub (gw_V xg_R_give ml_R_159 im_R_give se_R_give wi_R)) na_R_give (rm_lt (by decide) (by decide)) ⟨Nat.zero_le _, Nat.zero_le _⟩ 0 at_R rfl rfl (Nat.le_of_ble_eq_true rfl) xd_R_use_204 ?_
                      refine aw_iconst (v := (0 : Int32)) C xd_R_use_207 (by decide) ?_
                      cases hm
                      exact aw_iret C xd_R_use_208
                    · rw [if_pos c_179] at hm
                      refine aw_iload C 0 xd_R_use_182 rfl ?_
                      refine aw_iload C 1 xd_R_use_184 rfl ?_
                      refine aw_icmp_ge (tgt := 193) C xd_R_use_186 (by decide) (fun c_186 => ?_) (fun c_186 => ?_)
                      · rw [if_pos c_186] at hm
                        refine aw_iconst (v := (0 : Int32)) C xd_R_use_193 (by decide) ?_
                        refine aw_goto (tgt := 204) C xd_R_use_194 (by decide) ?_
                        obtain ⟨q_204, e_204, hm⟩ := aw_bnd hm
                        refine aw_callVv (As := [.int (0 : Int32)]) (rest := []) (b := ad 0) C (xc_R_give q_21.2 (0 : Int32) _  e_204) rfl (gw_sub (gw_V xg_R_give ml_R_159 im_R_give se_R_give wi_R)) na_R_give (rm_lt (by decide) (by decide)) ⟨Nat.zero_le _, Nat.zero_le _⟩ 0 at_R rfl rfl (Nat.le_of_ble_eq_true rfl) xd_R_use_204 ?_
                        refine aw_iconst (v := (0 : Int32)) C xd_R_use_207 (by decide) ?_
                        cases hm
                        exact aw_iret C xd_R_use_208
                      · rw [if_neg c_186] at hm
                        refine aw_iconst (v := (1 : Int32)) C xd_R_use_189 (by decide) ?_
                        refine aw_goto (tgt := 204) C xd_R_use_190 (by decide) ?_
                        obtain ⟨q_204, e_204, hm⟩ := aw_bnd hm
                        refine aw_callVv (As := [.int (1 : Int32)]) (rest := []) (b := ad 0) C (xc_R_give q_21.2 (1 : Int32) _  e_204) rfl (gw_sub (gw_V xg_R_give ml_R_159 im_R_give se_R_give wi_R)) na_R_give (rm_lt (by decide) (by decide)) ⟨Nat.zero_le _, Nat.zero_le _⟩ 0 at_R rfl rfl (Nat.le_of_ble_eq_true rfl) xd_R_use_204 ?_
                        refine aw_iconst (v := (0 : Int32)) C xd_R_use_207 (by decide) ?_
                        cases hm
                        exact aw_iret C xd_R_use_208
                  · rw [if_pos c_165] at hm
                    refine aw_iload C 0 xd_R_use_168 rfl ?_
                    refine aw_iload C 1 xd_R_use_170 rfl ?_
                    refine aw_imul C xd_R_use_172 ?_
                    refine aw_goto (tgt := 204) C xd_R_use_173 (by decide) ?_
                    obtain ⟨q_204, e_204, hm⟩ := aw_bnd hm
                    refine aw_callVv (As := [.int ((0 : Int32) * q_21.1)]) (rest := []) (b := ad 0) C (xc_R_give q_21.2 ((0 : Int32) * q_21.1) _  e_204) rfl (gw_sub (gw_V xg_R_give ml_R_159 im_R_give se_R_give wi_R)) na_R_give (rm_lt (by decide) (by decide)) ⟨Nat.zero_le _, Nat.zero_le _⟩ 0 at_R rfl rfl (Nat.le_of_ble_eq_true rfl) xd_R_use_204 ?_
                    refine aw_iconst (v := (0 : Int32)) C xd_R_use_207 (by decide) ?_
                    cases hm
                    exact aw_iret C xd_R_use_208
                · rw [if_pos c_151] at hm
                  refine aw_iload C 0 xd_R_use_154 rfl ?_
                  refine aw_iload C 1 xd_R_use_156 rfl ?_
                  refine aw_isub C xd_R_use_158 ?_
                  refine aw_goto (tgt := 204) C xd_R_use_159 (by decide) ?_
                  obtain ⟨q_204, e_204, hm⟩ := aw_bnd hm
                  refine aw_callVv (As := [.int ((0 : Int32) - q_21.1)]) (rest := []) (b := ad 0) C (xc_R_give q_21.2 ((0 : Int32) - q_21.1) _  e_204) rfl (gw_sub (gw_V xg_R_give ml_R_159 im_R_give se_R_give wi_R)) na_R_give (rm_lt (by decide) (by decide)) ⟨Nat.zero_le _, Nat.zero_le _⟩ 0 at_R rfl rfl (Nat.le_of_ble_eq_true rfl) xd_R_use_204 ?_
                  refine aw_iconst (v := (0 : Int32)) C xd_R_use_207 (by decide) ?_
                  cases hm
                  exact aw_iret C xd_R_use_208
              · rw [if_pos c_138] at hm
                refine aw_iload C 0 xd_R_use_141 rfl ?_
                refine aw_iload C 1 xd_R_use_143 rfl ?_
                refine aw_iadd C xd_R_use_145 ?_
                refine aw_goto (tgt := 204) C xd_R_use_146 (by decide) ?_
                obtain ⟨q_204, e_204, hm⟩ := aw_bnd hm
                refine aw_callVv (As := [.int ((0 : Int32) + q_21.1)]) (rest := []) (b := ad 0) C (xc_R_give q_21.2 ((0 : Int32) + q_21.1) _  e_204) rfl (gw_sub (gw_V xg_R_give ml_R_159 im_R_give se_R_give wi_R)) na_R_give (rm_lt (by decide) (by decide)) ⟨Nat.zero_le _, Nat.zero_le _⟩ 0 at_R rfl rfl (Nat.le_of_ble_eq_true rfl) xd_R_use_204 ?_
                refine aw_iconst (v := (0 : Int32)) C xd_R_use_207 (by decide) ?_
                cases hm
                exact aw_iret C xd_R_use_208
            · rw [if_pos c_128] at hm
              refine aw_iload C 0 xd_R_use_131 rfl ?_
              refine aw_goto (tgt := 204) C xd_R_use_133 (by decide) ?_
              obtain ⟨q_204, e_204, hm⟩ := aw_bnd hm
              refine aw_callVv (As := [.int (0 : Int32)]) (rest := []) (b := ad 0) C (xc_R_give q_21.2 (0 : Int32) _  e_204) rfl (gw_sub (gw_V xg_R_give ml_R_159 im_R_give se_R_give wi_R)) na_R_give (rm_lt (by decide) (by decide)) ⟨Nat.zero_le _, Nat.zero_le _⟩ 0 at_R rfl rfl (Nat.le_of_ble_eq_true rfl) xd_R_use_204 ?_
              refine aw_iconst (v := (0 : Int32)) C xd_R_use_207 (by decide) ?_
              cases hm
              exact aw_iret C xd_R_use_208
          · rw [if_pos c_100] at hm
            refine aw_aload_n C 4 xd_R_use_103 rfl rfl ?_
            refine aw_get C 0 (by decide) rfl rfl (fun w h => List.mem_cons_of_mem _ (xi_R w h)) 11 (by decide) rfl (List.mem_cons_of_mem _ fl_R_43) xd_R_use_104 ?_
            refine aw_iconst (v := (3 : Int32)) C xd_R_use_107 (by decide) ?_
            refine aw_aload_n C 4 xd_R_use_108 rfl rfl ?_
            refine aw_get C 0 (by decide) rfl rfl (fun w h => List.mem_cons_of_mem _ (xi_R w h)) 25 (by decide) rfl (List.mem_cons_of_mem _ fl_R_71) xd_R_use_109 ?_
            refine aw_iload_n C 6 xd_R_use_112 rfl rfl ?_
            obtain ⟨g_113, hm⟩ := aw_grd hm
            refine aw_iald C 20 (by decide) 0 rfl rfl (aw_in_ok g_113) xd_R_use_113 ?_
            refine aw_imul C xd_R_use_114 ?_
            refine aw_aload_n C 4 xd_R_use_115 rfl rfl ?_
            refine aw_get C 0 (by decide) rfl rfl (fun w h => List.mem_cons_of_mem _ (xi_R w h)) 7 (by decide) rfl (List.mem_cons_of_mem _ fl_R_31) xd_R_use_116 ?_
            refine aw_iload_n C 5 xd_R_use_119 rfl rfl ?_
            obtain ⟨g_120, hm⟩ := aw_grd hm
            refine aw_iald C 8 (by decide) 0 rfl rfl (aw_in_ok g_120) xd_R_use_120 ?_
            refine aw_iadd C xd_R_use_121 ?_
            refine aw_iload C 0 xd_R_use_122 rfl ?_
            obtain ⟨g_124, hm⟩ := aw_grd hm
            obtain ⟨s_124, h_124, hm⟩ := aw_let hm
            refine aw_iast (σ1 := s_124) (g := upd (q_21.2 12) (Int32.toNatClampNeg (((3 : Int32) * (q_21.2 20 (Int32.toNatClampNeg a2))) + (q_21.2 8 (Int32.toNatClampNeg a1)))) (0 : Int32)) C 12 (by decide) 0 rfl rfl (aw_in_ok g_124) rfl h_124 xd_R_use_124 ?_
            refine aw_aload_n C 4 xd_R_use_125 rfl rfl ?_
            refine aw_iload_n C 3 xd_R_use_126 rfl rfl ?_
            refine aw_iconst (v := (3 : Int32)) C xd_R_use_127 (by decide) ?_
            refine aw_icmp_ne (tgt := 136) C xd_R_use_128 (by decide) (fun c_128 => ?_) (fun c_128 => ?_)
            · rw [if_neg c_128] at hm
              refine aw_iload_n C 3 xd_R_use_136 rfl rfl ?_
              refine aw_iconst (v := (4 : Int32)) C xd_R_use_137 (by decide) ?_
              refine aw_icmp_ne (tgt := 149) C xd_R_use_138 (by decide) (fun c_138 => ?_) (fun c_138 => ?_)
              · rw [if_neg c_138] at hm
                refine aw_iload_n C 3 xd_R_use_149 rfl rfl ?_
                refine aw_iconst (v := (5 : Int32)) C xd_R_use_150 (by decide) ?_
                refine aw_icmp_ne (tgt := 162) C xd_R_use_151 (by decide) (fun c_151 => ?_) (fun c_151 => ?_)
                · rw [if_neg c_151] at hm
                  refine aw_iload_n C 3 xd_R_use_162 rfl rfl ?_
                  refine aw_bipush (v := (6 : Int32)) C xd_R_use_163 (by decide) ?_
                  refine aw_icmp_ne (tgt := 176) C xd_R_use_165 (by decide) (fun c_165 => ?_) (fun c_165 => ?_)
                  · rw [if_neg c_165] at hm
                    refine aw_iload_n C 3 xd_R_use_176 rfl rfl ?_
                    refine aw_bipush (v := (8 : Int32)) C xd_R_use_177 (by decide) ?_
                    refine aw_icmp_ne (tgt := 197) C xd_R_use_179 (by decide) (fun c_179 => ?_) (fun c_179 => ?_)
                    · rw [if_neg c_179] at hm
                      refine aw_iload C 0 xd_R_use_197 rfl ?_
                      refine aw_iload C 1 xd_R_use_199 rfl ?_
                      obtain ⟨q_201, e_201, hm⟩ := aw_bnd hm
                      refine aw_callSi (As := [.int (0 : Int32), .int q_21.1]) (rest := [.ref (ad 0)]) C (xc_R_quotient s_124 (0 : Int32) q_21.1 _  e_201) rfl (gw_sub (gw_S xg_R_quotient ml_R_162 st_R_quotient wi_R)) na_R_quotient (rm_lt (by decide) (by decide)) ⟨Nat.zero_le _, Nat.zero_le _⟩ rfl (Nat.le_of_ble_eq_true rfl) xd_R_use_201 ?_
                      obtain ⟨q_204, e_204, hm⟩ := aw_bnd hm
                      refine aw_callVv (As := [.int q_201]) (rest := []) (b := ad 0) C (xc_R_give s_124 q_201 _  e_204) rfl (gw_sub (gw_V xg_R_give ml_R_159 im_R_give se_R_give wi_R)) na_R_give (rm_lt (by decide) (by decide)) ⟨Nat.zero_le _, Nat.zero_le _⟩ 0 at_R rfl rfl (Nat.le_of_ble_eq_true rfl) xd_R_use_204 ?_
                      refine aw_iconst (v := (0 : Int32)) C xd_R_use_207 (by decide) ?_
                      cases hm
                      exact aw_iret C xd_R_use_208
                    · rw [if_pos c_179] at hm
                      refine aw_iload C 0 xd_R_use_182 rfl ?_
                      refine aw_iload C 1 xd_R_use_184 rfl ?_
                      refine aw_icmp_ge (tgt := 193) C xd_R_use_186 (by decide) (fun c_186 => ?_) (fun c_186 => ?_)
                      · rw [if_pos c_186] at hm
                        refine aw_iconst (v := (0 : Int32)) C xd_R_use_193 (by decide) ?_
                        refine aw_goto (tgt := 204) C xd_R_use_194 (by decide) ?_
                        obtain ⟨q_204, e_204, hm⟩ := aw_bnd hm
                        refine aw_callVv (As := [.int (0 : Int32)]) (rest := []) (b := ad 0) C (xc_R_give s_124 (0 : Int32) _  e_204) rfl (gw_sub (gw_V xg_R_give ml_R_159 im_R_give se_R_give wi_R)) na_R_give (rm_lt (by decide) (by decide)) ⟨Nat.zero_le _, Nat.zero_le _⟩ 0 at_R rfl rfl (Nat.le_of_ble_eq_true rfl) xd_R_use_204 ?_
                        refine aw_iconst (v := (0 : Int32)) C xd_R_use_207 (by decide) ?_
                        cases hm
                        exact aw_iret C xd_R_use_208
                      · rw [if_neg c_186] at hm
                        refine aw_iconst (v := (1 : Int32)) C xd_R_use_189 (by decide) ?_
                        refine aw_goto (tgt := 204) C xd_R_use_190 (by decide) ?_
                        obtain ⟨q_204, e_204, hm⟩ := aw_bnd hm
                        refine aw_callVv (As := [.int (1 : Int32)]) (rest := []) (b := ad 0) C (xc_R_give s_124 (1 : Int32) _  e_204) rfl (gw_sub (gw_V xg_R_give ml_R_159 im_R_give se_R_give wi_R)) na_R_give (rm_lt (by decide) (by decide)) ⟨Nat.zero_le _, Nat.zero_le _⟩ 0 at_R rfl rfl (Nat.le_of_ble_eq_true rfl) xd_R_use_204 ?_
                        refine aw_iconst (v := (0 : Int32)) C xd_R_use_207 (by decide) ?_
                        cases hm
                        exact aw_iret C xd_R_use_208
                  · rw [if_pos c_165] at hm
                    refine aw_iload C 0 xd_R_use_168 rfl ?_
                    refine aw_iload C 1 xd_R_use_170 rfl ?_
                    refine aw_imul C xd_R_use_172 ?_
                    refine aw_goto (tgt := 204) C xd_R_use_173 (by decide) ?_
                    obtain ⟨q_204, e_204, hm⟩ := aw_bnd hm
                    refine aw_callVv (As := [.int ((0 : Int32) * q_21.1)]) (rest := []) (b := ad 0) C (xc_R_give s_124 ((0 : Int32) * q_21.1) _  e_204) rfl (gw_sub (gw_V xg_R_give ml_R_159 im_R_give se_R_give wi_R)) na_R_give (rm_lt (by decide) (by decide)) ⟨Nat.zero_le _, Nat.zero_le _⟩ 0 at_R rfl rfl (Nat.le_of_ble_eq_true rfl) xd_R_use_204 ?_
                    refine aw_iconst (v := (0 : Int32)) C xd_R_use_207 (by decide) ?_
                    cases hm
                    exact aw_iret C xd_R_use_208
                · rw [if_pos c_151] at hm
                  refine aw_iload C 0 xd_R_use_154 rfl ?_
                  refine aw_iload C 1 xd_R_use_156 rfl ?_
                  refine aw_isub C xd_R_use_158 ?_
                  refine aw_goto (tgt := 204) C xd_R_use_159 (by decide) ?_
                  obtain ⟨q_204, e_204, hm⟩ := aw_bnd hm
                  refine aw_callVv (As := [.int ((0 : Int32) - q_21.1)]) (rest := []) (b := ad 0) C (xc_R_give s_124 ((0 : Int32) - q_21.1) _  e_204) rfl (gw_sub (gw_V xg_R_give ml_R_159 im_R_give se_R_give wi_R)) na_R_give (rm_lt (by decide) (by decide)) ⟨Nat.zero_le _, Nat.zero_le _⟩ 0 at_R rfl rfl (Nat.le_of_ble_eq_true rfl) xd_R_use_204 ?_
                  refine aw_iconst (v := (0 : Int32)) C xd_R_use_207 (by decide) ?_
                  cases hm
                  exact aw_iret C xd_R_use_208
              · rw [if_pos c_138] at hm
                refine aw_iload C 0 xd_R_use_141 rfl ?_
                refine aw_iload C 1 xd_R_use_143 rfl ?_
                refine aw_iadd C xd_R_use_145 ?_
                refine aw_goto (tgt := 204) C xd_R_use_146 (by decide) ?_
                obtain ⟨q_204, e_204, hm⟩ := aw_bnd hm
                refine aw_callVv (As := [.int ((0 : Int32) + q_21.1)]) (rest := []) (b := ad 0) C (xc_R_give s_124 ((0 : Int32) + q_21.1) _  e_204) rfl (gw_sub (gw_V xg_R_give ml_R_159 im_R_give se_R_give wi_R)) na_R_give (rm_lt (by decide) (by decide)) ⟨Nat.zero_le _, Nat.zero_le _⟩ 0 at_R rfl rfl (Nat.le_of_ble_eq_true rfl) xd_R_use_204 ?_
                refine aw_iconst (v := (0 : Int32)) C xd_R_use_207 (by decide) ?_
                cases hm
                exact aw_iret C xd_R_use_208
            · rw [if_pos c_128] at hm
              refine aw_iload C 0 xd_R_use_131 rfl ?_
              refine aw_goto (tgt := 204) C xd_R_use_133 (by decide) ?_
              obtain ⟨q_204, e_204, hm⟩ := aw_bnd hm
              refine aw_callVv (As := [.int (0 : Int32)]) (rest := []) (b := ad 0) C (xc_R_give s_124 (0 : Int32) _  e_204) rfl (gw_sub (gw_V xg_R_give ml_R_159 im_R_give se_R_give wi_R)) na_R_give (rm_lt (by decide) (by decide)) ⟨Nat.zero_le _, Nat.zero_le _⟩ 0 at_R rfl rfl (Nat.le_of_ble_eq_true rfl) xd_R_use_204 ?_
              refine aw_iconst (v := (0 : Int32)) C xd_R_use_207 (by decide) ?_
              cases hm
              exact aw_iret C xd_R_use_208
        · rw [if_pos c_87] at hm
          refine aw_iload C 1 xd_R_use_90 rfl ?_
          refine aw_if_ne (tgt := 98) C xd_R_use_92 (by decide) (fun c_92 => ?_) (fun c_92 => ?_)
          · rw [if_neg c_92] at hm
            refine aw_iload_n C 3 xd_R_use_98 rfl rfl ?_
            refine aw_iconst (v := (3 : Int32)) C xd_R_use_99 (by decide) ?_
            refine aw_icmp_ne (tgt := 125) C xd_R_use_100 (by decide) (fun c_100 => ?_) (fun c_100 => ?_)
            · rw [if_neg c_100] at hm
              refine aw_aload_n C 4 xd_R_use_125 rfl rfl ?_
              refine aw_iload_n C 3 xd_R_use_126 rfl rfl ?_
              refine aw_iconst (v := (3 : Int32)) C xd_R_use_127 (by decide) ?_
              refine aw_icmp_ne (tgt := 136) C xd_R_use_128 (by decide) (fun c_128 => ?_) (fun c_128 => ?_)
              · rw [if_neg c_128] at hm
                refine aw_iload_n C 3 xd_R_use_136 rfl rfl ?_
                refine aw_iconst (v := (4 : Int32)) C xd_R_use_137 (by decide) ?_
                refine aw_icmp_ne (tgt := 149) C xd_R_use_138 (by decide) (fun c_138 => ?_) (fun c_138 => ?_)
                · rw [if_neg c_138] at hm
                  refine aw_iload_n C 3 xd_R_use_149 rfl rfl ?_
                  refine aw_iconst (v := (5 : Int32)) C xd_R_use_150 (by decide) ?_
                  refine aw_icmp_ne (tgt := 162) C xd_R_use_151 (by decide) (fun c_151 => ?_) (fun c_151 => ?_)
                  · rw [if_neg c_151] at hm
                    refine aw_iload_n C 3 xd_R_use_162 rfl rfl ?_
                    refine aw_bipush (v := (6 : Int32)) C xd_R_use_163 (by decide) ?_
                    refine aw_icmp_ne (tgt := 176) C xd_R_use_165 (by decide) (fun c_165 => ?_) (fun c_165 => ?_)
                    · rw [if_neg c_165] at hm
                      refine aw_iload_n C 3 xd_R_use_176 rfl rfl ?_
                      refine aw_bipush (v := (8 : Int32)) C xd_R_use_177 (by decide) ?_
                      refine aw_icmp_ne (tgt := 197) C xd_R_use_179 (by decide) (fun c_179 => ?_) (fun c_179 => ?_)
                      · rw [if_neg c_179] at hm
                        refine aw_iload C 0 xd_R_use_197 rfl ?_
                        refine aw_iload C 1 xd_R_use_199 rfl ?_
                        obtain ⟨q_201, e_201, hm⟩ := aw_bnd hm
                        refine aw_callSi (As := [.int (0 : Int32), .int q_21.1]) (rest := [.ref (ad 0)]) C (xc_R_quotient q_21.2 (0 : Int32) q_21.1 _  e_201) rfl (gw_sub (gw_S xg_R_quotient ml_R_162 st_R_quotient wi_R)) na_R_quotient (rm_lt (by decide) (by decide)) ⟨Nat.zero_le _, Nat.zero_le _⟩ rfl (Nat.le_of_ble_eq_true rfl) xd_R_use_201 ?_
                        obtain ⟨q_204, e_204, hm⟩ := aw_bnd hm
                        refine aw_callVv (As := [.int q_201]) (rest := []) (b := ad 0) C (xc_R_give q_21.2 q_201 _  e_204) rfl (gw_sub (gw_V xg_R_give ml_R_159 im_R_give se_R_give wi_R)) na_R_give (rm_lt (by decide) (by decide)) ⟨Nat.zero_le _, Nat.zero_le _⟩ 0 at_R rfl rfl (Nat.le_of_ble_eq_true rfl) xd_R_use_204 ?_
                        refine aw_iconst (v := (0 : Int32)) C xd_R_use_207 (by decide) ?_
                        cases hm
                        exact aw_iret C xd_R_use_208
                      · rw [if_pos c_179] at hm
                        refine aw_iload C 0 xd_R_use_182 rfl ?_
                        refine aw_iload C 1 xd_R_use_184 rfl ?_
                        refine aw_icmp_ge (tgt := 193) C xd_R_use_186 (by decide) (fun c_186 => ?_) (fun c_186 => ?_)
                        · rw [if_pos c_186] at hm
                          refine aw_iconst (v := (0 : Int32)) C xd_R_use_193 (by decide) ?_
                          refine aw_goto (tgt := 204) C xd_R_use_194 (by decide) ?_
                          obtain ⟨q_204, e_204, hm⟩ := aw_bnd hm
                          refine aw_callVv (As := [.int (0 : Int32)]) (rest := []) (b := ad 0) C (xc_R_give q_21.2 (0 : Int32) _  e_204) rfl (gw_sub (gw_V xg_R_give ml_R_159 im_R_give se_R_give wi_R)) na_R_give (rm_lt (by decide) (by decide)) ⟨Nat.zero_le _, Nat.zero_le _⟩ 0 at_R rfl rfl (Nat.le_of_ble_eq_true rfl) xd_R_use_204 ?_
                          refine aw_iconst (v := (0 : Int32)) C xd_R_use_207 (by decide) ?_
                          cases hm
                          exact aw_iret C xd_R_use_208
                        · rw [if_neg c_186] at hm
                          refine aw_iconst (v := (1 : Int32)) C xd_R_use_189 (by decide) ?_
                          refine aw_goto (tgt := 204) C xd_R_use_190 (by decide) ?_
                          obtain ⟨q_204, e_204, hm⟩ := aw_bnd hm
                          refine aw_callVv (As := [.int (1 : Int32)]) (rest := []) (b := ad 0) C (xc_R_give q_21.2 (1 : Int32) _  e_204) rfl (gw_sub (gw_V xg_R_give ml_R_159 im_R_give se_R_give wi_R)) na_R_give (rm_lt (by decide) (by decide)) ⟨Nat.zero_le _, Nat.zero_le _⟩ 0 at_R rfl rfl (Nat.le_of_ble_eq_true rfl) xd_R_use_204 ?_
                          refine aw_iconst (v := (0 : Int32)) C xd_R_use_207 (by decide) ?_
                          cases hm
                          exact aw_iret C xd_R_use_208
                    · rw [if_pos c_165] at hm
                      refine aw_iload C 0 xd_R_use_168 rfl ?_
                      refine aw_iload C 1 xd_R_use_170 rfl ?_
                      refine aw_imul C xd_R_use_172 ?_
                      refine aw_goto (tgt := 204) C xd_R_use_173 (by decide) ?_
                      obtain ⟨q_204, e_204, hm⟩ := aw_bnd hm
                      refine aw_callVv (As := [.int ((0 : Int32) * q_21.1)]) (rest := []) (b := ad 0) C (xc_R_give q_21.2 ((0 : Int32) * q_21.1) _  e_204) rfl (gw_sub (gw_V xg_R_give ml_R_159 im_R_give se_R_give wi_R)) na_R_give (rm_lt (by decide) (by decide)) ⟨Nat.zero_le _, Nat.zero_le _⟩ 0 at_R rfl rfl (Nat.le_of_ble_eq_true rfl) xd_R_use_204 ?_
                      refine aw_iconst (v := (0 : Int32)) C xd_R_use_207 (by decide) ?_
                      cases hm
                      exact aw_iret C xd_R_use_208
                  · rw [if_pos c_151] at hm
                    refine aw_iload C 0 xd_R_use_154 rfl ?_
                    refine aw_iload C 1 xd_R_use_156 rfl ?_
                    refine aw_isub C xd_R_use_158 ?_
                    refine aw_goto (tgt := 204) C xd_R_use_159 (by decide) ?_
                    obtain ⟨q_204, e_204, hm⟩ := aw_bnd hm
                    refine aw_callVv (As := [.int ((0 : Int32) - q_21.1)]) (rest := []) (b := ad 0) C (xc_R_give q_21.2 ((0 : Int32) - q_21.1) _  e_204) rfl (gw_sub (gw_V xg_R_give ml_R_159 im_R_give se_R_give wi_R)) na_R_give (rm_lt (by decide) (by decide)) ⟨Nat.zero_le _, Nat.zero_le _⟩ 0 at_R rfl rfl (Nat.le_of_ble_eq_true rfl) xd_R_use_204 ?_
                    refine aw_iconst (v := (0 : Int32)) C xd_R_use_207 (by decide) ?_
                    cases hm
                    exact aw_iret C xd_R_use_208
                · rw [if_pos c_138] at hm
                  refine aw_iload C 0 xd_R_use_141 rfl ?_
                  refine aw_iload C 1 xd_R_use_143 rfl ?_
                  refine aw_iadd C xd_R_use_145 ?_
                  refine aw_goto (tgt := 204) C xd_R_use_146 (by decide) ?_
                  obtain ⟨q_204, e_204, hm⟩ := aw_bnd hm
                  refine aw_callVv (As := [.int ((0 : Int32) + q_21.1)]) (rest := []) (b := ad 0) C (xc_R_give q_21.2 ((0 : Int32) + q_21.1) _  e_204) rfl (gw_sub (gw_V xg_R_give ml_R_159 im_R_give se_R_give wi_R)) na_R_give (rm_lt (by decide) (by decide)) ⟨Nat.zero_le _, Nat.zero_le _⟩ 0 at_R rfl rfl (Nat.le_of_ble_eq_true rfl) xd_R_use_204 ?_
                  refine aw_iconst (v := (0 : Int32)) C xd_R_use_207 (by decide) ?_
                  cases hm
                  exact aw_iret C xd_R_use_208
              · rw [if_pos c_128] at hm
                refine aw_iload C 0 xd_R_use_131 rfl ?_
                refine aw_goto (tgt := 204) C xd_R_use_133 (by decide) ?_
                obtain ⟨q_204, e_204, hm⟩ := aw_bnd hm
                refine aw_callVv (As := [.int (0 : Int32)]) (rest := []) (b := ad 0) C (xc_R_give q_21.2 (0 : Int32) _  e_204) rfl (gw_sub (gw_V xg_R_give ml_R_159 im_R_give se_R_give wi_R)) na_R_give (rm_lt (by decide) (by decide)) ⟨Nat.zero_le _, Nat.zero_le _⟩ 0 at_R rfl rfl (Nat.le_of_ble_eq_true rfl) xd_R_use_204 ?_
                refine aw_iconst (v := (0 : Int32)) C xd_R_use_207 (by decide) ?_
                cases hm
                exact aw_iret C xd_R_use_208
            · rw [if_pos c_100] at hm
              refine aw_aload_n C 4 xd_R_use_103 rfl rfl ?_
              refine aw_get C 0 (by decide) rfl rfl (fun w h => List.mem_cons_of_mem _ (xi_R w h)) 11 (by decide) rfl (List.mem_cons_of_mem _ fl_R_43) xd_R_use_104 ?_
              refine aw_iconst (v := (3 : Int32)) C xd_R_use_107 (by decide) ?_
              refine aw_aload_n C 4 xd_R_use_108 rfl rfl ?_
              refine aw_get C 0 (by decide) rfl rfl (fun w h => List.mem_cons_of_mem _ (xi_R w h)) 25 (by decide) rfl (List.mem_cons_of_mem _ fl_R_71) xd_R_use_109 ?_
              refine aw_iload_n C 6 xd_R_use_112 rfl rfl ?_
              obtain ⟨g_113, hm⟩ := aw_grd hm
              refine aw_iald C 20 (by decide) 0 rfl rfl (aw_in_ok g_113) xd_R_use_113 ?_
              refine aw_imul C xd_R_use_114 ?_
              refine aw_aload_n C 4 xd_R_use_115 rfl rfl ?_
              refine aw_get C 0 (by decide) rfl rfl (fun w h => List.mem_cons_of_mem _ (xi_R w h)) 7 (by decide) rfl (List.mem_cons_of_mem _ fl_R_31) xd_R_use_116 ?_
              refine aw_iload_n C 5 xd_R_use_119 rfl rfl ?_
              obtain ⟨g_120, hm⟩ := aw_grd hm
              refine aw_iald C 8 (by decide) 0 rfl rfl (aw_in_ok g_120) xd_R_use_120 ?_
              refine aw_iadd C xd_R_use_121 ?_
              refine aw_iload C 0 xd_R_use_122 rfl ?_
              obtain ⟨g_124, hm⟩ := aw_grd hm
              obtain ⟨s_124, h_124, hm⟩ := aw_let hm
              refine aw_iast (σ1 := s_124) (g := upd (q_21.2 12) (Int32.toNatClampNeg (((3 : Int32) * (q_21.2 20 (Int32.toNatClampNeg a2))) + (q_21.2 8 (Int32.toNatClampNeg a1)))) (0 : Int32)) C 12 (by decide) 0 rfl rfl (aw_in_ok g_124) rfl h_124 xd_R_use_124 ?_
              refine aw_aload_n C 4 xd_R_use_125 rfl rfl ?_
              refine aw_iload_n C 3 xd_R_use_126 rfl rfl ?_
              refine aw_iconst (v := (3 : Int32)) C xd_R_use_127 (by decide) ?_
              refine aw_icmp_ne (tgt := 136) C xd_R_use_128 (by decide) (fun c_128 => ?_) (fun c_128 => ?_)
              · rw [if_neg c_128] at hm
                refine aw_iload_n C 3 xd_R_use_136 rfl rfl ?_
                refine aw_iconst (v := (4 : Int32)) C xd_R_use_137 (by decide) ?_
                refine aw_icmp_ne (tgt := 149) C xd_R_use_138 (by decide) (fun c_138 => ?_) (fun c_138 => ?_)
                · rw [if_neg c_138] at hm
                  refine aw_iload_n C 3 xd_R_use_149 rfl rfl ?_
                  refine aw_iconst (v := (5 : Int32)) C xd_R_use_150 (by decide) ?_
                  refine aw_icmp_ne (tgt := 162) C xd_R_use_151 (by decide) (fun c_151 => ?_) (fun c_151 => ?_)
                  · rw [if_neg c_151] at hm
                    refine aw_iload_n C 3 xd_R_use_162 rfl rfl ?_
                    refine aw_bipush (v := (6 : Int32)) C xd_R_use_163 (by decide) ?_
                    refine aw_icmp_ne (tgt := 176) C xd_R_use_165 (by decide) (fun c_165 => ?_) (fun c_165 => ?_)
                    · rw [if_neg c_165] at hm
                      refine aw_iload_n C 3 xd_R_use_176 rfl rfl ?_
                      refine aw_bipush (v := (8 : Int32)) C xd_R_use_177 (by decide) ?_
                      refine aw_icmp_ne (tgt := 197) C xd_R_use_179 (by decide) (fun c_179 => ?_) (fun c_179 => ?_)
                      · rw [if_neg c_179] at hm
                        refine aw_iload C 0 xd_R_use_197 rfl ?_
                        refine aw_iload C 1 xd_R_use_199 rfl ?_
                        obtain ⟨q_201, e_201, hm⟩ := aw_bnd hm
                        refine aw_callSi (As := [.int (0 : Int32), .int q_21.1]) (rest := [.ref (ad 0)]) C (xc_R_quotient s_124 (0 : Int32) q_21.1 _  e_201) rfl (gw_sub (gw_S xg_R_quotient ml_R_162 st_R_quotient wi_R)) na_R_quotient (rm_lt (by decide) (by decide)) ⟨Nat.zero_le _, Nat.zero_le _⟩ rfl (Nat.le_of_ble_eq_true rfl) xd_R_use_201 ?_
                        obtain ⟨q_204, e_204, hm⟩ := aw_bnd hm
                        refine aw_callVv (As := [.int q_201]) (rest := []) (b := ad 0) C (xc_R_give s_124 q_201 _  e_204) rfl (gw_sub (gw_V xg_R_give ml_R_159 im_R_give se_R_give wi_R)) na_R_give (rm_lt (by decide) (by decide)) ⟨Nat.zero_le _, Nat.zero_le _⟩ 0 at_R rfl rfl (Nat.le_of_ble_eq_true rfl) xd_R_use_204 ?_
                        refine aw_iconst (v := (0 : Int32)) C xd_R_use_207 (by decide) ?_
                        cases hm
                        exact aw_iret C xd_R_use_208
                      · rw [if_pos c_179] at hm
                        refine aw_iload C 0 xd_R_use_182 rfl ?_
                        refine aw_iload C 1 xd_R_use_184 rfl ?_
                        refine aw_icmp_ge (tgt := 193) C xd_R_use_186 (by decide) (fun c_186 => ?_) (fun c_186 => ?_)
                        · rw [if_pos c_186] at hm
                          refine aw_iconst (v := (0 : Int32)) C xd_R_use_193 (by decide) ?_
                          refine aw_goto (tgt := 204) C xd_R_use_194 (by decide) ?_
                          obtain ⟨q_204, e_204, hm⟩ := aw_bnd hm
                          refine aw_callVv (As := [.int (0 : Int32)]) (rest := []) (b := ad 0) C (xc_R_give s_124 (0 : Int32) _  e_204) rfl (gw_sub (gw_V xg_R_give ml_R_159 im_R_give se_R_give wi_R)) na_R_give (rm_lt (by decide) (by decide)) ⟨Nat.zero_le _, Nat.zero_le _⟩ 0 at_R rfl rfl (Nat.le_of_ble_eq_true rfl) xd_R_use_204 ?_
                          refine aw_iconst (v := (0 : Int32)) C xd_R_use_207 (by decide) ?_
                          cases hm
                          exact aw_iret C xd_R_use_208
                        · rw [if_neg c_186] at hm
                          refine aw_iconst (v := (1 : Int32)) C xd_R_use_189 (by decide) ?_
                          refine aw_goto (tgt := 204) C xd_R_use_190 (by decide) ?_
                          obtain ⟨q_204, e_204, hm⟩ := aw_bnd hm
                          refine aw_callVv (As := [.int (1 : Int32)]) (rest := []) (b := ad 0) C (xc_R_give s_124 (1 : Int32) _  e_204) rfl (gw_sub (gw_V xg_R_give ml_R_159 im_R_give se_R_give wi_R)) na_R_give (rm_lt (by decide) (by decide)) ⟨Nat.zero_le _, Nat.zero_le _⟩ 0 at_R rfl rfl (Nat.le_of_ble_eq_true rfl) xd_R_use_204 ?_
                          refine aw_iconst (v := (0 : Int32)) C xd_R_use_207 (by decide) ?_
                          cases hm
                          exact aw_iret C xd_R_use_208
                    · rw [if_pos c_165] at hm
                      refine aw_iload C 0 xd_R_use_168 rfl ?_
                      refine aw_iload C 1 xd_R_use_170 rfl ?_
                      refine aw_imul C xd_R_use_172 ?_
                      refine aw_goto (tgt := 204) C xd_R_use_173 (by decide) ?_
                      obtain ⟨q_204, e_204, hm⟩ := aw_bnd hm
                      refine aw_callVv (As := [.int ((0 : Int32) * q_21.1)]) (rest := []) (b := ad 0) C (xc_R_give s_124 ((0 : Int32) * q_21.1) _  e_204) rfl (gw_sub (gw_V xg_R_give ml_R_159 im_R_give se_R_give wi_R)) na_R_give (rm_lt (by decide) (by decide)) ⟨Nat.zero_le _, Nat.zero_le _⟩ 0 at_R rfl rfl (Nat.le_of_ble_eq_true rfl) xd_R_use_204 ?_
                      refine aw_iconst (v := (0 : Int32)) C xd_R_use_207 (by decide) ?_
                      cases hm
                      exact aw_iret C xd_R_use_208
                  · rw [if_pos c_151] at hm
                    refine aw_iload C 0 xd_R_use_154 rfl ?_
                    refine aw_iload C 1 xd_R_use_156 rfl ?_
                    refine aw_isub C xd_R_use_158 ?_
                    refine aw_goto (tgt := 204) C xd_R_use_159 (by decide) ?_
                    obtain ⟨q_204, e_204, hm⟩ := aw_bnd hm
                    refine aw_callVv (As := [.int ((0 : Int32) - q_21.1)]) (rest := []) (b := ad 0) C (xc_R_give s_124 ((0 : Int32) - q_21.1) _  e_204) rfl (gw_sub (gw_V xg_R_give ml_R_159 im_R_give se_R_give wi_R)) na_R_give (rm_lt (by decide) (by decide)) ⟨Nat.zero_le _, Nat.zero_le _⟩ 0 at_R rfl rfl (Nat.le_of_ble_eq_true rfl) xd_R_use_204 ?_
                    refine aw_iconst (v := (0 : Int32)) C xd_R_use_207 (by decide) ?_
                    cases hm
                    exact aw_iret C xd_R_use_208
                · rw [if_pos c_138] at hm
                  refine aw_iload C 0 xd_R_use_141 rfl ?_
                  refine aw_iload C 1 xd_R_use_143 rfl ?_
                  refine aw_iadd C xd_R_use_145 ?_
                  refine aw_goto (tgt := 204) C xd_R_use_146 (by decide) ?_
                  obtain ⟨q_204, e_204, hm⟩ := aw_bnd hm
                  refine aw_callVv (As := [.int ((0 : Int32) + q_21.1)]) (rest := []) (b := ad 0) C (xc_R_give s_124 ((0 : Int32) + q_21.1) _  e_204) rfl (gw_sub (gw_V xg_R_give ml_R_159 im_R_give se_R_give wi_R)) na_R_give (rm_lt (by decide) (by decide)) ⟨Nat.zero_le _, Nat.zero_le _⟩ 0 at_R rfl rfl (Nat.le_of_ble_eq_true rfl) xd_R_use_204 ?_
                  refine aw_iconst (v := (0 : Int32)) C xd_R_use_207 (by decide) ?_
                  cases hm
                  exact aw_iret C xd_R_use_208
              · rw [if_pos c_128] at hm
                refine aw_iload C 0 xd_R_use_131 rfl ?_
                refine aw_goto (tgt := 204) C xd_R_use_133 (by decide) ?_
                obtain ⟨q_204, e_204, hm⟩ := aw_bnd hm
                refine aw_callVv (As := [.int (0 : Int32)]) (rest := []) (b := ad 0) C (xc_R_give s_124 (0 : Int32) _  e_204) rfl (gw_sub (gw_V xg_R_give ml_R_159 im_R_give se_R_give wi_R)) na_R_give (rm_lt (by decide) (by decide)) ⟨Nat.zero_le _, Nat.zero_le _⟩ 0 at_R rfl rfl (Nat.le_of_ble_eq_true rfl) xd_R_use_204 ?_
                refine aw_iconst (v := (0 : Int32)) C xd_R_use_207 (by decide) ?_
                cases hm
                exact aw_iret C xd_R_use_208
          · rw [if_pos c_92] at hm
            refine aw_bipush (v := (-8 : Int32)) C xd_R_use_95 (by decide) ?_
            cases hm
            exact aw_iret C xd_R_use_97
      · rw [if_pos c_48] at hm
        refine aw_iload_n C 6 xd_R_use_51 rfl rfl ?_
        refine aw_iconst (v := (5 : Int32)) C xd_R_use_52 (by decide) ?_
        refine aw_icmp_ne (tgt := 59) C xd_R_use_53 (by decide) (fun c_53 => ?_) (fun c_53 => ?_)
        · rw [if_neg c_53] at hm
          refine aw_aload_n C 4 xd_R_use_59 rfl rfl ?_
          refine aw_iload_n C 6 xd_R_use_60 rfl rfl ?_
          refine aw_iconst (v := (1 : Int32)) C xd_R_use_61 (by decide) ?_
          refine aw_iadd C xd_R_use_62 ?_
          refine aw_aload_n C 4 xd_R_use_63 rfl rfl ?_
          refine aw_get C 0 (by decide) rfl rfl (fun w h => List.mem_cons_of_mem _ (xi_R w h)) 6 (by decide) rfl (List.mem_cons_of_mem _ fl_R_28) xd_R_use_64 ?_
          refine aw_iload_n C 5 xd_R_use_67 rfl rfl ?_
          obtain ⟨g_68, hm⟩ := aw_grd hm
          refine aw_iald C 7 (by decide) 0 rfl rfl (aw_in_ok g_68) xd_R_use_68 ?_
          refine aw_aload_n C 4 xd_R_use_69 rfl rfl ?_
          refine aw_get C 0 (by decide) rfl rfl (fun w h => List.mem_cons_of_mem _ (xi_R w h)) 7 (by decide) rfl (List.mem_cons_of_mem _ fl_R_31) xd_R_use_70 ?_
          refine aw_iload_n C 5 xd_R_use_73 rfl rfl ?_
          obtain ⟨g_74, hm⟩ := aw_grd hm
          refine aw_iald C 8 (by decide) 0 rfl rfl (aw_in_ok g_74) xd_R_use_74 ?_
          refine aw_iload C 0 xd_R_use_75 rfl ?_
          refine aw_iload C 1 xd_R_use_77 rfl ?_
          obtain ⟨q_79, e_79, hm⟩ := aw_bnd hm
          refine aw_callVv (As := [.int (a2 + (1 : Int32)), .int (q_21.2 7 (Int32.toNatClampNeg a1)), .int (q_21.2 8 (Int32.toNatClampNeg a1)), .int (0 : Int32), .int q_21.1]) (rest := []) (b := ad 0) C (xc_R_enter q_21.2 (a2 + (1 : Int32)) (q_21.2 7 (Int32.toNatClampNeg a1)) (q_21.2 8 (Int32.toNatClampNeg a1)) (0 : Int32) q_21.1 _  e_79) rfl (gw_sub (gw_V xg_R_enter ml_R_136 im_R_enter se_R_enter wi_R)) na_R_enter (rm_lt (by decide) (by decide)) ⟨Nat.zero_le _, Nat.zero_le _⟩ 0 at_R rfl rfl (Nat.le_of_ble_eq_true rfl) xd_R_use_79 ?_
          refine aw_iconst (v := (0 : Int32)) C xd_R_use_82 (by decide) ?_
          cases hm
          exact aw_iret C xd_R_use_83
        · rw [if_pos c_53] at hm
          refine aw_bipush (v := (-9 : Int32)) C xd_R_use_56 (by decide) ?_
          cases hm
          exact aw_iret C xd_R_use_58
    · rw [if_neg c_32] at hm
      refine aw_aload_n C 3 xd_R_use_35 rfl rfl ?_
      obtain ⟨q_36, e_36, hm⟩ := aw_bnd hm
      refine aw_callVi (As := []) (rest := []) (b := ad 0) C (xc_R_take q_21.2  _  e_36) rfl (gw_sub (gw_V xg_R_take ml_R_146 im_R_take se_R_take wi_R)) na_R_take (rm_lt (by decide) (by decide)) ⟨Nat.zero_le _, Nat.zero_le _⟩ 0 at_R rfl rfl (Nat.le_of_ble_eq_true rfl) xd_R_use_36 ?_
      refine aw_goto (tgt := 43) C xd_R_use_39 (by decide) ?_
      refine aw_istore (L' := [(6, .int q_36.1), (5, .int q_21.1), (4, .int q_9), (3, .int (σ 6 (Int32.toNatClampNeg a1))), (0, .ref (ad 0)), (1, .int a1), (2, .int a2)]) C xd_R_use_43 (by decide) rfl ?_
      refine aw_iload_n C 3 xd_R_use_45 rfl rfl ?_
      refine aw_bipush (v := (11 : Int32)) C xd_R_use_46 (by decide) ?_
      refine aw_icmp_ne (tgt := 84) C xd_R_use_48 (by decide) (fun c_48 => ?_) (fun c_48 => ?_)
      · rw [if_neg c_48] at hm
        refine aw_iload_n C 3 xd_R_use_84 rfl rfl ?_
        refine aw_bipush (v := (7 : Int32)) C xd_R_use_85 (by decide) ?_
        refine aw_icmp_ne (tgt := 98) C xd_R_use_87 (by decide) (fun c_87 => ?_) (fun c_87 => ?_)
        · rw [if_neg c_87] at hm
          refine aw_iload_n C 3 xd_R_use_98 rfl rfl ?_
          refine aw_iconst (v := (3 : Int32)) C xd_R_use_99 (by decide) ?_
          refine aw_icmp_ne (tgt := 125) C xd_R_use_100 (by decide) (fun c_100 => ?_) (fun c_100 => ?_)
          · rw [if_neg c_100] at hm
            refine aw_aload_n C 4 xd_R_use_125 rfl rfl ?_
            refine aw_iload_n C 3 xd_R_use_126 rfl rfl ?_
            refine aw_iconst (v := (3 : Int32)) C xd_R_use_127 (by decide) ?_
            refine aw_icmp_ne (tgt := 136) C xd_R_use_128 (by decide) (fun c_128 => ?_) (fun c_128 => ?_)
            · rw [if_neg c_128] at hm
              refine aw_iload_n C 3 xd_R_use_136 rfl rfl ?_
              refine aw_iconst (v := (4 : Int32)) C xd_R_use_137 (by decide) ?_
              refine aw_icmp_ne (tgt := 149) C xd_R_use_138 (by decide) (fun c_138 => ?_) (fun c_138 => ?_)
              · rw [if_neg c_138] at hm
                refine aw_iload_n C 3 xd_R_use_149 rfl rfl ?_
                refine aw_iconst (v := (5 : Int32)) C xd_R_use_150 (by decide) ?_
                refine aw_icmp_ne (tgt := 162) C xd_R_use_151 (by decide) (fun c_151 => ?_) (fun c_151 => ?_)
                · rw [if_neg c_151] at hm
                  refine aw_iload_n C 3 xd_R_use_162 rfl rfl ?_
                  refine aw_bipush (v := (6 : Int32)) C xd_R_use_163 (by decide) ?_
                  refine aw_icmp_ne (tgt := 176) C xd_R_use_165 (by decide) (fun c_165 => ?_) (fun c_165 => ?_)
                  · rw [if_neg c_165] at hm
                    refine aw_iload_n C 3 xd_R_use_176 rfl rfl ?_
                    refine aw_bipush (v := (8 : Int32)) C xd_R_use_177 (by decide) ?_
                    refine aw_icmp_ne (tgt := 197) C xd_R_use_179 (by decide) (fun c_179 => ?_) (fun c_179 => ?_)
                    · rw [if_neg c_179] at hm
                      refine aw_iload C 0 xd_R_use_197 rfl ?_
                      refine aw_iload C 1 xd_R_use_199 rfl ?_
                      obtain ⟨q_201, e_201, hm⟩ := aw_bnd hm
                      refine aw_callSi (As := [.int q_36.1, .int q_21.1]) (rest := [.ref (ad 0)]) C (xc_R_quotient q_36.2 q_36.1 q_21.1 _  e_201) rfl (gw_sub (gw_S xg_R_quotient ml_R_162 st_R_quotient wi_R)) na_R_quotient (rm_lt (by decide) (by decide)) ⟨Nat.zero_le _, Nat.zero_le _⟩ rfl (Nat.le_of_ble_eq_true rfl) xd_R_use_201 ?_
                      obtain ⟨q_204, e_204, hm⟩ := aw_bnd hm
                      refine aw_callVv (As := [.int q_201]) (rest := []) (b := ad 0) C (xc_R_give q_36.2 q_201 _  e_204) rfl (gw_sub (gw_V xg_R_give ml_R_159 im_R_give se_R_give wi_R)) na_R_give (rm_lt (by decide) (by decide)) ⟨Nat.zero_le _, Nat.zero_le _⟩ 0 at_R rfl rfl (Nat.le_of_ble_eq_true rfl) xd_R_use_204 ?_
                      refine aw_iconst (v := (0 : Int32)) C xd_R_use_207 (by decide) ?_
                      cases hm
                      exact aw_iret C xd_R_use_208
                    · rw [if_pos c_179] at hm
                      refine aw_iload C 0 xd_R_use_182 rfl ?_
                      refine aw_iload C 1 xd_R_use_184 rfl ?_
                      refine aw_icmp_ge (tgt := 193) C xd_R_use_186 (by decide) (fun c_186 => ?_) (fun c_186 => ?_)
                      · rw [if_pos c_186] at hm
                        refine aw_iconst (v := (0 : Int32)) C xd_R_use_193 (by decide) ?_
                        refine aw_goto (tgt := 204) C xd_R_use_194 (by decide) ?_
                        obtain ⟨q_204, e_204, hm⟩ := aw_bnd hm
                        refine aw_callVv (As := [.int (0 : Int32)]) (rest := []) (b := ad 0) C (xc_R_give q_36.2 (0 : Int32) _  e_204) rfl (gw_sub (gw_V xg_R_give ml_R_159 im_R_give se_R_give wi_R)) na_R_give (rm_lt (by decide) (by decide)) ⟨Nat.zero_le _, Nat.zero_le _⟩ 0 at_R rfl rfl (Nat.le_of_ble_eq_true rfl) xd_R_use_204 ?_
                        refine aw_iconst (v := (0 : Int32)) C xd_R_use_207 (by decide) ?_
                        cases hm
                        exact aw_iret C xd_R_use_208
                      · rw [if_neg c_186] at hm
                        refine aw_iconst (v := (1 : Int32)) C xd_R_use_189 (by decide) ?_
                        refine aw_goto (tgt := 204) C xd_R_use_190 (by decide) ?_
                        obtain ⟨q_204, e_204, hm⟩ := aw_bnd hm
                        refine aw_callVv (As := [.int (1 : Int32)]) (rest := []) (b := ad 0) C (xc_R_give q_36.2 (1 : Int32) _  e_204) rfl (gw_sub (gw_V xg_R_give ml_R_159 im_R_give se_R_give wi_R)) na_R_give (rm_lt (by decide) (by decide)) ⟨Nat.zero_le _, Nat.zero_le _⟩ 0 at_R rfl rfl (Nat.le_of_ble_eq_true rfl) xd_R_use_204 ?_
                        refine aw_iconst (v := (0 : Int32)) C xd_R_use_207 (by decide) ?_
                        cases hm
                        exact aw_iret C xd_R_use_208
                  · rw [if_pos c_165] at hm
                    refine aw_iload C 0 xd_R_use_168 rfl ?_
                    refine aw_iload C 1 xd_R_use_170 rfl ?_
                    refine aw_imul C xd_R_use_172 ?_
                    refine aw_goto (tgt := 204) C xd_R_use_173 (by decide) ?_
                    obtain ⟨q_204, e_204, hm⟩ := aw_bnd hm
                    refine aw_callVv (As := [.int (q_36.1 * q_21.1)]) (rest := []) (b := ad 0) C (xc_R_give q_36.2 (q_36.1 * q_21.1) _  e_204) rfl (gw_sub (gw_V xg_R_give ml_R_159 im_R_give se_R_give wi_R)) na_R_give (rm_lt (by decide) (by decide)) ⟨Nat.zero_le _, Nat.zero_le _⟩ 0 at_R rfl rfl (Nat.le_of_ble_eq_true rfl) xd_R_use_204 ?_
                    refine aw_iconst (v := (0 : Int32)) C xd_R_use_207 (by decide) ?_
                    cases hm
                    exact aw_iret C xd_R_use_208
                · rw [if_pos c_151] at hm
                  refine aw_iload C 0 xd_R_use_154 rfl ?_
                  refine aw_iload C 1 xd_R_use_156 rfl ?_
                  refine aw_isub C xd_R_use_158 ?_
                  refine aw_goto (tgt := 204) C xd_R_use_159 (by decide) ?_
                  obtain ⟨q_204, e_204, hm⟩ := aw_bnd hm
                  refine aw_callVv (As := [.int (q_36.1 - q_21.1)]) (rest := []) (b := ad 0) C (xc_R_give q_36.2 (q_36.1 - q_21.1) _  e_204) rfl (gw_sub (gw_V xg_R_give ml_R_159 im_R_give se_R_give wi_R)) na_R_give (rm_lt (by decide) (by decide)) ⟨Nat.zero_le _, Nat.zero_le _⟩ 0 at_R rfl rfl (Nat.le_of_ble_eq_true rfl) xd_R_use_204 ?_
                  refine aw_iconst (v := (0 : Int32)) C xd_R_use_207 (by decide) ?_
                  cases hm
                  exact aw_iret C xd_R_use_208
              · rw [if_pos c_138] at hm
                refine aw_iload C 0 xd_R_use_141 rfl ?_
                refine aw_iload C 1 xd_R_use_143 rfl ?_
                refine aw_iadd C xd_R_use_145 ?_
                refine aw_goto (tgt := 204) C xd_R_use_146 (by decide) ?_
                obtain ⟨q_204, e_204, hm⟩ := aw_bnd hm
                refine aw_callVv (As := [.int (q_36.1 + q_21.1)]) (rest := []) (b := ad 0) C (xc_R_give q_36.2 (q_36.1 + q_21.1) _  e_204) rfl (gw_sub (gw_V xg_R_give ml_R_159 im_R_give se_R_give wi_R)) na_R_give (rm_lt (by decide) (by decide)) ⟨Nat.zero_le _, Nat.zero_le _⟩ 0 at_R rfl rfl (Nat.le_of_ble_eq_true rfl) xd_R_use_204 ?_
                refine aw_iconst (v := (0 : Int32)) C xd_R_use_207 (by decide) ?_
                cases hm
                exact aw_iret C xd_R_use_208
            · rw [if_pos c_128] at hm
              refine aw_iload C 0 xd_R_use_131 rfl ?_
              refine aw_goto (tgt := 204) C xd_R_use_133 (by decide) ?_
              obtain ⟨q_204, e_204, hm⟩ := aw_bnd hm
              refine aw_callVv (As := [.int q_36.1]) (rest := []) (b := ad 0) C (xc_R_give q_36.2 q_36.1 _  e_204) rfl (gw_sub (gw_V xg_R_give ml_R_159 im_R_give se_R_give wi_R)) na_R_give (rm_lt (by decide) (by decide)) ⟨Nat.zero_le _, Nat.zero_le _⟩ 0 at_R rfl rfl (Nat.le_of_ble_eq_true rfl) xd_R_use_204 ?_
              refine aw_iconst (v := (0 : Int32)) C xd_R_use_207 (by decide) ?_
              cases hm
              exact aw_iret C xd_R_use_208
          · rw [if_pos c_100] at hm
            refine aw_aload_n C 4 xd_R_use_103 rfl rfl ?_
            refine aw_get C 0 (by decide) rfl rfl (fun w h => List.mem_cons_of_mem _ (xi_R w h)) 11 (by decide) rfl (List.mem_cons_of_mem _ fl_R_43) xd_R_use_104 ?_
            refine aw_iconst (v := (3 : Int32)) C xd_R_use_107 (by decide) ?_
            refine aw_aload_n C 4 xd_R_use_108 rfl rfl ?_
            refine aw_get C 0 (by decide) rfl rfl (fun w h => List.mem_cons_of_mem _ (xi_R w h)) 25 (by decide) rfl (List.mem_cons_of_mem _ fl_R_71) xd_R_use_109 ?_
            refine aw_iload_n C 6 xd_R_use_112 rfl rfl ?_
            obtain ⟨g_113, hm⟩ := aw_grd hm
            refine aw_iald C 20 (by decide) 0 rfl rfl (aw_in_ok g_113) xd_R_use_113 ?_
            refine aw_imul C xd_R_use_114 ?_
            refine aw_aload_n C 4 xd_R_use_115 rfl rfl ?_
            refine aw_get C 0 (by decide) rfl rfl (fun w h => List.mem_cons_of_mem _ (xi_R w h)) 7 (by decide) rfl (List.mem_cons_of_mem _ fl_R_31) xd_R_use_116 ?_
            refine aw_iload_n C 5 xd_R_use_119 rfl rfl ?_
            obtain ⟨g_120, hm⟩ := aw_grd hm
            refine aw_iald C 8 (by decide) 0 rfl rfl (aw_in_ok g_120) xd_R_use_120 ?_
            refine aw_iadd C xd_R_use_121 ?_
            refine aw_iload C 0 xd_R_use_122 rfl ?_
            obtain ⟨g_124, hm⟩ := aw_grd hm
            obtain ⟨s_124, h_124, hm⟩ := aw_let hm
            refine aw_iast (σ1 := s_124) (g := upd (q_36.2 12) (Int32.toNatClampNeg (((3 : Int32) * (q_36.2 20 (Int32.toNatClampNeg a2))) + (q_36.2 8 (Int32.toNatClampNeg a1)))) q_36.1) C 12 (by decide) 0 rfl rfl (aw_in_ok g_124) rfl h_124 xd_R_use_124 ?_
            refine aw_aload_n C 4 xd_R_use_125 rfl rfl ?_
            refine aw_iload_n C 3 xd_R_use_126 rfl rfl ?_
            refine aw_iconst (v := (3 : Int32)) C xd_R_use_127 (by decide) ?_
            refine aw_icmp_ne (tgt := 136) C xd_R_use_128 (by decide) (fun c_128 => ?_) (fun c_128 => ?_)
            · rw [if_neg c_128] at hm
              refine aw_iload_n C 3 xd_R_use_136 rfl rfl ?_
              refine aw_iconst (v := (4 : Int32)) C xd_R_use_137 (by decide) ?_
              refine aw_icmp_ne (tgt := 149) C xd_R_use_138 (by decide) (fun c_138 => ?_) (fun c_138 => ?_)
              · rw [if_neg c_138] at hm
                refine aw_iload_n C 3 xd_R_use_149 rfl rfl ?_
                refine aw_iconst (v := (5 : Int32)) C xd_R_use_150 (by decide) ?_
                refine aw_icmp_ne (tgt := 162) C xd_R_use_151 (by decide) (fun c_151 => ?_) (fun c_151 => ?_)
                · rw [if_neg c_151] at hm
                  refine aw_iload_n C 3 xd_R_use_162 rfl rfl ?_
                  refine aw_bipush (v := (6 : Int32)) C xd_R_use_163 (by decide) ?_
                  refine aw_icmp_ne (tgt := 176) C xd_R_use_165 (by decide) (fun c_165 => ?_) (fun c_165 => ?_)
                  · rw [if_neg c_165] at hm
                    refine aw_iload_n C 3 xd_R_use_176 rfl rfl ?_
                    refine aw_bipush (v := (8 : Int32)) C xd_R_use_177 (by decide) ?_
                    refine aw_icmp_ne (tgt := 197) C xd_R_use_179 (by decide) (fun c_179 => ?_) (fun c_179 => ?_)
                    · rw [if_neg c_179] at hm
                      refine aw_iload C 0 xd_R_use_197 rfl ?_
                      refine aw_iload C 1 xd_R_use_199 rfl ?_
                      obtain ⟨q_201, e_201, hm⟩ := aw_bnd hm
                      refine aw_callSi (As := [.int q_36.1, .int q_21.1]) (rest := [.ref (ad 0)]) C (xc_R_quotient s_124 q_36.1 q_21.1 _  e_201) rfl (gw_sub (gw_S xg_R_quotient ml_R_162 st_R_quotient wi_R)) na_R_quotient (rm_lt (by decide) (by decide)) ⟨Nat.zero_le _, Nat.zero_le _⟩ rfl (Nat.le_of_ble_eq_true rfl) xd_R_use_201 ?_
                      obtain ⟨q_204, e_204, hm⟩ := aw_bnd hm
                      refine aw_callVv (As := [.int q_201]) (rest := []) (b := ad 0) C (xc_R_give s_124 q_201 _  e_204) rfl (gw_sub (gw_V xg_R_give ml_R_159 im_R_give se_R_give wi_R)) na_R_give (rm_lt (by decide) (by decide)) ⟨Nat.zero_le _, Nat.zero_le _⟩ 0 at_R rfl rfl (Nat.le_of_ble_eq_true rfl) xd_R_use_204 ?_
                      refine aw_iconst (v := (0 : Int32)) C xd_R_use_207 (by decide) ?_
                      cases hm
                      exact aw_iret C xd_R_use_208
                    · rw [if_pos c_179] at hm
                      refine aw_iload C 0 xd_R_use_182 rfl ?_
                      refine aw_iload C 1 xd_R_use_184 rfl ?_
                      refine aw_icmp_ge (tgt := 193) C xd_R_use_186 (by decide) (fun c_186 => ?_) (fun c_186 => ?_)
                      · rw [if_pos c_186] at hm
                        refine aw_iconst (v := (0 : Int32)) C xd_R_use_193 (by decide) ?_
                        refine aw_goto (tgt := 204) C xd_R_use_194 (by decide) ?_
                        obtain ⟨q_204, e_204, hm⟩ := aw_bnd hm
                        refine aw_callVv (As := [.int (0 : Int32)]) (rest := []) (b := ad 0) C (xc_R_give s_124 (0 : Int32) _  e_204) rfl (gw_sub (gw_V xg_R_give ml_R_159 im_R_give se_R_give wi_R)) na_R_give (rm_lt (by decide) (by decide)) ⟨Nat.zero_le _, Nat.zero_le _⟩ 0 at_R rfl rfl (Nat.le_of_ble_eq_true rfl) xd_R_use_204 ?_
                        refine aw_iconst (v := (0 : Int32)) C xd_R_use_207 (by decide) ?_
                        cases hm
                        exact aw_iret C xd_R_use_208
                      · rw [if_neg c_186] at hm
                        refine aw_iconst (v := (1 : Int32)) C xd_R_use_189 (by decide) ?_
                        refine aw_goto (tgt := 204) C xd_R_use_190 (by decide) ?_
                        obtain ⟨q_204, e_204, hm⟩ := aw_bnd hm
                        refine aw_callVv (As := [.int (1 : Int32)]) (rest := []) (b := ad 0) C (xc_R_give s_124 (1 : Int32) _  e_204) rfl (gw_sub (gw_V xg_R_give ml_R_159 im_R_give se_R_give wi_R)) na_R_give (rm_lt (by decide) (by decide)) ⟨Nat.zero_le _, Nat.zero_le _⟩ 0 at_R rfl rfl (Nat.le_of_ble_eq_true rfl) xd_R_use_204 ?_
                        refine aw_iconst (v := (0 : Int32)) C xd_R_use_207 (by decide) ?_
                        cases hm
                        exact aw_iret C xd_R_use_208
                  · rw [if_pos c_165] at hm
                    refine aw_iload C 0 xd_R_use_168 rfl ?_
                    refine aw_iload C 1 xd_R_use_170 rfl ?_
                    refine aw_imul C xd_R_use_172 ?_
                    refine aw_goto (tgt := 204) C xd_R_use_173 (by decide) ?_
                    obtain ⟨q_204, e_204, hm⟩ := aw_bnd hm
                    refine aw_callVv (As := [.int (q_36.1 * q_21.1)]) (rest := []) (b := ad 0) C (xc_R_give s_124 (q_36.1 * q_21.1) _  e_204) rfl (gw_sub (gw_V xg_R_give ml_R_159 im_R_give se_R_give wi_R)) na_R_give (rm_lt (by decide) (by decide)) ⟨Nat.zero_le _, Nat.zero_le _⟩ 0 at_R rfl rfl (Nat.le_of_ble_eq_true rfl) xd_R_use_204 ?_
                    refine aw_iconst (v := (0 : Int32)) C xd_R_use_207 (by decide) ?_
                    cases hm
                    exact aw_iret C xd_R_use_208
                · rw [if_pos c_151] at hm
                  refine aw_iload C 0 xd_R_use_154 rfl ?_
                  refine aw_iload C 1 xd_R_use_156 rfl ?_
                  refine aw_isub C xd_R_use_158 ?_
                  refine aw_goto (tgt := 204) C xd_R_use_159 (by decide) ?_
                  obtain ⟨q_204, e_204, hm⟩ := aw_bnd hm
                  refine aw_callVv (As := [.int (q_36.1 - q_21.1)]) (rest := []) (b := ad 0) C (xc_R_give s_124 (q_36.1 - q_21.1) _  e_204) rfl (gw_sub (gw_V xg_R_give ml_R_159 im_R_give se_R_give wi_R)) na_R_give (rm_lt (by decide) (by decide)) ⟨Nat.zero_le _, Nat.zero_le _⟩ 0 at_R rfl rfl (Nat.le_of_ble_eq_true rfl) xd_R_use_204 ?_
                  refine aw_iconst (v := (0 : Int32)) C xd_R_use_207 (by decide) ?_
                  cases hm
                  exact aw_iret C xd_R_use_208
              · rw [if_pos c_138] at hm
                refine aw_iload C 0 xd_R_use_141 rfl ?_
                refine aw_iload C 1 xd_R_use_143 rfl ?_
                refine aw_iadd C xd_R_use_145 ?_
                refine aw_goto (tgt := 204) C xd_R_use_146 (by decide) ?_
                obtain ⟨q_204, e_204, hm⟩ := aw_bnd hm
                refine aw_callVv (As := [.int (q_36.1 + q_21.1)]) (rest := []) (b := ad 0) C (xc_R_give s_124 (q_36.1 + q_21.1) _  e_204) rfl (gw_sub (gw_V xg_R_give ml_R_159 im_R_give se_R_give wi_R)) na_R_give (rm_lt (by decide) (by decide)) ⟨Nat.zero_le _, Nat.zero_le _⟩ 0 at_R rfl rfl (Nat.le_of_ble_eq_true rfl) xd_R_use_204 ?_
                refine aw_iconst (v := (0 : Int32)) C xd_R_use_207 (by decide) ?_
                cases hm
                exact aw_iret C xd_R_use_208
            · rw [if_pos c_128] at hm
              refine aw_iload C 0 xd_R_use_131 rfl ?_
              refine aw_goto (tgt := 204) C xd_R_use_133 (by decide) ?_
              obtain ⟨q_204, e_204, hm⟩ := aw_bnd hm
              refine aw_callVv (As := [.int q_36.1]) (rest := []) (b := ad 0) C (xc_R_give s_124 q_36.1 _  e_204) rfl (gw_sub (gw_V xg_R_give ml_R_159 im_R_give se_R_give wi_R)) na_R_give (rm_lt (by decide) (by decide)) ⟨Nat.zero_le _, Nat.zero_le _⟩ 0 at_R rfl rfl (Nat.le_of_ble_eq_true rfl) xd_R_use_204 ?_
              refine aw_iconst (v := (0 : Int32)) C xd_R_use_207 (by decide) ?_
              cases hm
              exact aw_iret C xd_R_use_208
        · rw [if_pos c_87] at hm
          refine aw_iload C 1 xd_R_use_90 rfl ?_
          refine aw_if_ne (tgt := 98) C xd_R_use_92 (by decide) (fun c_92 => ?_) (fun c_92 => ?_)
          · rw [if_neg c_92] at hm
            refine aw_iload_n C 3 xd_R_use_98 rfl rfl ?_
            refine aw_iconst (v := (3 : Int32)) C xd_R_use_99 (by decide) ?_
            refine aw_icmp_ne (tgt := 125) C xd_R_use_100 (by decide) (fun c_100 => ?_) (fun c_100 => ?_)
            · rw [if_neg c_100] at hm
              refine aw_aload_n C 4 xd_R_use_125 rfl rfl ?_
              refine aw_iload_n C 3 xd_R_use_126 rfl rfl ?_
              refine aw_iconst (v := (3 : Int32)) C xd_R_use_127 (by decide) ?_
              refine aw_icmp_ne (tgt := 136) C xd_R_use_128 (by decide) (fun c_128 => ?_) (fun c_128 => ?_)
              · rw [if_neg c_128] at hm
                refine aw_iload_n C 3 xd_R_use_136 rfl rfl ?_
                refine aw_iconst (v := (4 : Int32)) C xd_R_use_137 (by decide) ?_
                refine aw_icmp_ne (tgt := 149) C xd_R_use_138 (by decide) (fun c_138 => ?_) (fun c_138 => ?_)
                · rw [if_neg c_138] at hm
                  refine aw_iload_n C 3 xd_R_use_149 rfl rfl ?_
                  refine aw_iconst (v := (5 : Int32)) C xd_R_use_150 (by decide) ?_
                  refine aw_icmp_ne (tgt := 162) C xd_R_use_151 (by decide) (fun c_151 => ?_) (fun c_151 => ?_)
                  · rw [if_neg c_151] at hm
                    refine aw_iload_n C 3 xd_R_use_162 rfl rfl ?_
                    refine aw_bipush (v := (6 : Int32)) C xd_R_use_163 (by decide) ?_
                    refine aw_icmp_ne (tgt := 176) C xd_R_use_165 (by decide) (fun c_165 => ?_) (fun c_165 => ?_)
                    · rw [if_neg c_165] at hm
                      refine aw_iload_n C 3 xd_R_use_176 rfl rfl ?_
                      refine aw_bipush (v := (8 : Int32)) C xd_R_use_177 (by decide) ?_
                      refine aw_icmp_ne (tgt := 197) C xd_R_use_179 (by decide) (fun c_179 => ?_) (fun c_179 => ?_)
                      · rw [if_neg c_179] at hm
                        refine aw_iload C 0 xd_R_use_197 rfl ?_
                        refine aw_iload C 1 xd_R_use_199 rfl ?_
                        obtain ⟨q_201, e_201, hm⟩ := aw_bnd hm
                        refine aw_callSi (As := [.int q_36.1, .int q_21.1]) (rest := [.ref (ad 0)]) C (xc_R_quotient q_36.2 q_36.1 q_21.1 _  e_201) rfl (gw_sub (gw_S xg_R_quotient ml_R_162 st_R_quotient wi_R)) na_R_quotient (rm_lt (by decide) (by decide)) ⟨Nat.zero_le _, Nat.zero_le _⟩ rfl (Nat.le_of_ble_eq_true rfl) xd_R_use_201 ?_
                        obtain ⟨q_204, e_204, hm⟩ := aw_bnd hm
                        refine aw_callVv (As := [.int q_201]) (rest := []) (b := ad 0) C (xc_R_give q_36.2 q_201 _  e_204) rfl (gw_sub (gw_V xg_R_give ml_R_159 im_R_give se_R_give wi_R)) na_R_give (rm_lt (by decide) (by decide)) ⟨Nat.zero_le _, Nat.zero_le _⟩ 0 at_R rfl rfl (Nat.le_of_ble_eq_true rfl) xd_R_use_204 ?_
                        refine aw_iconst (v := (0 : Int32)) C xd_R_use_207 (by decide) ?_
                        cases hm
                        exact aw_iret C xd_R_use_208
                      · rw [if_pos c_179] at hm
                        refine aw_iload C 0 xd_R_use_182 rfl ?_
                        refine aw_iload C 1 xd_R_use_184 rfl ?_
                        refine aw_icmp_ge (tgt := 193) C xd_R_use_186 (by decide) (fun c_186 => ?_) (fun c_186 => ?_)
                        · rw [if_pos c_186] at hm
                          refine aw_iconst (v := (0 : Int32)) C xd_R_use_193 (by decide) ?_
                          refine aw_goto (tgt := 204) C xd_R_use_194 (by decide) ?_
                          obtain ⟨q_204, e_204, hm⟩ := aw_bnd hm
                          refine aw_callVv (As := [.int (0 : Int32)]) (rest := []) (b := ad 0) C (xc_R_give q_36.2 (0 : Int32) _  e_204) rfl (gw_sub (gw_V xg_R_give ml_R_159 im_R_give se_R_give wi_R)) na_R_give (rm_lt (by decide) (by decide)) ⟨Nat.zero_le _, Nat.zero_le _⟩ 0 at_R rfl rfl (Nat.le_of_ble_eq_true rfl) xd_R_use_204 ?_
                          refine aw_iconst (v := (0 : Int32)) C xd_R_use_207 (by decide) ?_
                          cases hm
                          exact aw_iret C xd_R_use_208
                        · rw [if_neg c_186] at hm
                          refine aw_iconst (v := (1 : Int32)) C xd_R_use_189 (by decide) ?_
                          refine aw_goto (tgt := 204) C xd_R_use_190 (by decide) ?_
                          obtain ⟨q_204, e_204, hm⟩ := aw_bnd hm
                          refine aw_callVv (As := [.int (1 : Int32)]) (rest := []) (b := ad 0) C (xc_R_give q_36.2 (1 : Int32) _  e_204) rfl (gw_sub (gw_V xg_R_give ml_R_159 im_R_give se_R_give wi_R)) na_R_give (rm_lt (by decide) (by decide)) ⟨Nat.zero_le _, Nat.zero_le _⟩ 0 at_R rfl rfl (Nat.le_of_ble_eq_true rfl) xd_R_use_204 ?_
                          refine aw_iconst (v := (0 : Int32)) C xd_R_use_207 (by decide) ?_
                          cases hm
                          exact aw_iret C xd_R_use_208
                    · rw [if_pos c_165] at hm
                      refine aw_iload C 0 xd_R_use_168 rfl ?_
                      refine aw_iload C 1 xd_R_use_170 rfl ?_
                      refine aw_imul C xd_R_use_172 ?_
                      refine aw_goto (tgt := 204) C xd_R_use_173 (by decide) ?_
                      obtain ⟨q_204, e_204, hm⟩ := aw_bnd hm
                      refine aw_callVv (As := [.int (q_36.1 * q_21.1)]) (rest := []) (b := ad 0) C (xc_R_give q_36.2 (q_36.1 * q_21.1) _  e_204) rfl (gw_sub (gw_V xg_R_give ml_R_159 im_R_give se_R_give wi_R)) na_R_give (rm_lt (by decide) (by decide)) ⟨Nat.zero_le _, Nat.zero_le _⟩ 0 at_R rfl rfl (Nat.le_of_ble_eq_true rfl) xd_R_use_204 ?_
                      refine aw_iconst (v := (0 : Int32)) C xd_R_use_207 (by decide) ?_
                      cases hm
                      exact aw_iret C xd_R_use_208
                  · rw [if_pos c_151] at hm
                    refine aw_iload C 0 xd_R_use_154 rfl ?_
                    refine aw_iload C 1 xd_R_use_156 rfl ?_
                    refine aw_isub C xd_R_use_158 ?_
                    refine aw_goto (tgt := 204) C xd_R_use_159 (by decide) ?_
                    obtain ⟨q_204, e_204, hm⟩ := aw_bnd hm
                    refine aw_callVv (As := [.int (q_36.1 - q_21.1)]) (rest := []) (b := ad 0) C (xc_R_give q_36.2 (q_36.1 - q_21.1) _  e_204) rfl (gw_sub (gw_V xg_R_give ml_R_159 im_R_give se_R_give wi_R)) na_R_give (rm_lt (by decide) (by decide)) ⟨Nat.zero_le _, Nat.zero_le _⟩ 0 at_R rfl rfl (Nat.le_of_ble_eq_true rfl) xd_R_use_204 ?_
                    refine aw_iconst (v := (0 : Int32)) C xd_R_use_207 (by decide) ?_
                    cases hm
                    exact aw_iret C xd_R_use_208
                · rw [if_pos c_138] at hm
                  refine aw_iload C 0 xd_R_use_141 rfl ?_
                  refine aw_iload C 1 xd_R_use_143 rfl ?_
                  refine aw_iadd C xd_R_use_145 ?_
                  refine aw_goto (tgt := 204) C xd_R_use_146 (by decide) ?_
                  obtain ⟨q_204, e_204, hm⟩ := aw_bnd hm
                  refine aw_callVv (As := [.int (q_36.1 + q_21.1)]) (rest := []) (b := ad 0) C (xc_R_give q_36.2 (q_36.1 + q_21.1) _  e_204) rfl (gw_sub (gw_V xg_R_give ml_R_159 im_R_give se_R_give wi_R)) na_R_give (rm_lt (by decide) (by decide)) ⟨Nat.zero_le _, Nat.zero_le _⟩ 0 at_R rfl rfl (Nat.le_of_ble_eq_true rfl) xd_R_use_204 ?_
                  refine aw_iconst (v := (0 : Int32)) C xd_R_use_207 (by decide) ?_
                  cases hm
                  exact aw_iret C xd_R_use_208
              · rw [if_pos c_128] at hm
                refine aw_iload C 0 xd_R_use_131 rfl ?_
                refine aw_goto (tgt := 204) C xd_R_use_133 (by decide) ?_
                obtain ⟨q_204, e_204, hm⟩ := aw_bnd hm
                refine aw_callVv (As := [.int q_36.1]) (rest := []) (b := ad 0) C (xc_R_give q_36.2 q_36.1 _  e_204) rfl (gw_sub (gw_V xg_R_give ml_R_159 im_R_give se_R_give wi_R)) na_R_give (rm_lt (by decide) (by decide)) ⟨Nat.zero_le _, Nat.zero_le _⟩ 0 at_R rfl rfl (Nat.le_of_ble_eq_true rfl) xd_R_use_204 ?_
                refine aw_iconst (v := (0 : Int32)) C xd_R_use_207 (by decide) ?_
                cases hm
                exact aw_iret C xd_R_use_208
            · rw [if_pos c_100] at hm
              refine aw_aload_n C 4 xd_R_use_103 rfl rfl ?_
              refine aw_get C 0 (by decide) rfl rfl (fun w h => List.mem_cons_of_mem _ (xi_R w h)) 11 (by decide) rfl (List.mem_cons_of_mem _ fl_R_43) xd_R_use_104 ?_
              refine aw_iconst (v := (3 : Int32)) C xd_R_use_107 (by decide) ?_
              refine aw_aload_n C 4 xd_R_use_108 rfl rfl ?_
              refine aw_get C 0 (by decide) rfl rfl (fun w h => List.mem_cons_of_mem _ (xi_R w h)) 25 (by decide) rfl (List.mem_cons_of_mem _ fl_R_71) xd_R_use_109 ?_
              refine aw_iload_n C 6 xd_R_use_112 rfl rfl ?_
              obtain ⟨g_113, hm⟩ := aw_grd hm
              refine aw_iald C 20 (by decide) 0 rfl rfl (aw_in_ok g_113) xd_R_use_113 ?_
              refine aw_imul C xd_R_use_114 ?_
              refine aw_aload_n C 4 xd_R_use_115 rfl rfl ?_
              refine aw_get C 0 (by decide) rfl rfl (fun w h => List.mem_cons_of_mem _ (xi_R w h)) 7 (by decide) rfl (List.mem_cons_of_mem _ fl_R_31) xd_R_use_116 ?_
              refine aw_iload_n C 5 xd_R_use_119 rfl rfl ?_
              obtain ⟨g_120, hm⟩ := aw_grd hm
              refine aw_iald C 8 (by decide) 0 rfl rfl (aw_in_ok g_120) xd_R_use_120 ?_
              refine aw_iadd C xd_R_use_121 ?_
              refine aw_iload C 0 xd_R_use_122 rfl ?_
              obtain ⟨g_124, hm⟩ := aw_grd hm
              obtain ⟨s_124, h_124, hm⟩ := aw_let hm
              refine aw_iast (σ1 := s_124) (g := upd (q_36.2 12) (Int32.toNatClampNeg (((3 : Int32) * (q_36.2 20 (Int32.toNatClampNeg a2))) + (q_36.2 8 (Int32.toNatClampNeg a1)))) q_36.1) C 12 (by decide) 0 rfl rfl (aw_in_ok g_124) rfl h_124 xd_R_use_124 ?_
              refine aw_aload_n C 4 xd_R_use_125 rfl rfl ?_
              refine aw_iload_n C 3 xd_R_use_126 rfl rfl ?_
              refine aw_iconst (v := (3 : Int32)) C xd_R_use_127 (by decide) ?_
              refine aw_icmp_ne (tgt := 136) C xd_R_use_128 (by decide) (fun c_128 => ?_) (fun c_128 => ?_)
              · rw [if_neg c_128] at hm
                refine aw_iload_n C 3 xd_R_use_136 rfl rfl ?_
                refine aw_iconst (v := (4 : Int32)) C xd_R_use_137 (by decide) ?_
                refine aw_icmp_ne (tgt := 149) C xd_R_use_138 (by decide) (fun c_138 => ?_) (fun c_138 => ?_)
                · rw [if_neg c_138] at hm
                  refine aw_iload_n C 3 xd_R_use_149 rfl rfl ?_
                  refine aw_iconst (v := (5 : Int32)) C xd_R_use_150 (by decide) ?_
                  refine aw_icmp_ne (tgt := 162) C xd_R_use_151 (by decide) (fun c_151 => ?_) (fun c_151 => ?_)
                  · rw [if_neg c_151] at hm
                    refine aw_iload_n C 3 xd_R_use_162 rfl rfl ?_
                    refine aw_bipush (v := (6 : Int32)) C xd_R_use_163 (by decide) ?_
                    refine aw_icmp_ne (tgt := 176) C xd_R_use_165 (by decide) (fun c_165 => ?_) (fun c_165 => ?_)
                    · rw [if_neg c_165] at hm
                      refine aw_iload_n C 3 xd_R_use_176 rfl rfl ?_
                      refine aw_bipush (v := (8 : Int32)) C xd_R_use_177 (by decide) ?_
                      refine aw_icmp_ne (tgt := 197) C xd_R_use_179 (by decide) (fun c_179 => ?_) (fun c_179 => ?_)
                      · rw [if_neg c_179] at hm
                        refine aw_iload C 0 xd_R_use_197 rfl ?_
                        refine aw_iload C 1 xd_R_use_199 rfl ?_
                        obtain ⟨q_201, e_201, hm⟩ := aw_bnd hm
                        refine aw_callSi (As := [.int q_36.1, .int q_21.1]) (rest := [.ref (ad 0)]) C (xc_R_quotient s_124 q_36.1 q_21.1 _  e_201) rfl (gw_sub (gw_S xg_R_quotient ml_R_162 st_R_quotient wi_R)) na_R_quotient (rm_lt (by decide) (by decide)) ⟨Nat.zero_le _, Nat.zero_le _⟩ rfl (Nat.le_of_ble_eq_true rfl) xd_R_use_201 ?_
                        obtain ⟨q_204, e_204, hm⟩ := aw_bnd hm
                        refine aw_callVv (As := [.int q_201]) (rest := []) (b := ad 0) C (xc_R_give s_124 q_201 _  e_204) rfl (gw_sub (gw_V xg_R_give ml_R_159 im_R_give se_R_give wi_R)) na_R_give (rm_lt (by decide) (by decide)) ⟨Nat.zero_le _, Nat.zero_le _⟩ 0 at_R rfl rfl (Nat.le_of_ble_eq_true rfl) xd_R_use_204 ?_
                        refine aw_iconst (v := (0 : Int32)) C xd_R_use_207 (by decide) ?_
                        cases hm
                        exact aw_iret C xd_R_use_208
                      · rw [if_pos c_179] at hm
                        refine aw_iload C 0 xd_R_use_182 rfl ?_
                        refine aw_iload C 1 xd_R_use_184 rfl ?_
                        refine aw_icmp_ge (tgt := 193) C xd_R_use_186 (by decide) (fun c_186 => ?_) (fun c_186 => ?_)
                        · rw [if_pos c_186] at hm
                          refine aw_iconst (v := (0 : Int32)) C xd_R_use_193 (by decide) ?_
                          refine aw_goto (tgt := 204) C xd_R_use_194 (by decide) ?_
                          obtain ⟨q_204, e_204, hm⟩ := aw_bnd hm
                          refine aw_callVv (As := [.int (0 : Int32)]) (rest := []) (b := ad 0) C (xc_R_give s_124 (0 : Int32) _  e_204) rfl (gw_sub (gw_V xg_R_give ml_R_159 im_R_give se_R_give wi_R)) na_R_give (rm_lt (by decide) (by decide)) ⟨Nat.zero_le _, Nat.zero_le _⟩ 0 at_R rfl rfl (Nat.le_of_ble_eq_true rfl) xd_R_use_204 ?_
                          refine aw_iconst (v := (0 : Int32)) C xd_R_use_207 (by decide) ?_
                          cases hm
                          exact aw_iret C xd_R_use_208
                        · rw [if_neg c_186] at hm
                          refine aw_iconst (v := (1 : Int32)) C xd_R_use_189 (by decide) ?_
                          refine aw_goto (tgt := 204) C xd_R_use_190 (by decide) ?_
                          obtain ⟨q_204, e_204, hm⟩ := aw_bnd hm
                          refine aw_callVv (As := [.int (1 : Int32)]) (rest := []) (b := ad 0) C (xc_R_give s_124 (1 : Int32) _  e_204) rfl (gw_sub (gw_V xg_R_give ml_R_159 im_R_give se_R_give wi_R)) na_R_give (rm_lt (by decide) (by decide)) ⟨Nat.zero_le _, Nat.zero_le _⟩ 0 at_R rfl rfl (Nat.le_of_ble_eq_true rfl) xd_R_use_204 ?_
                          refine aw_iconst (v := (0 : Int32)) C xd_R_use_207 (by decide) ?_
                          cases hm
                          exact aw_iret C xd_R_use_208
                    · rw [if_pos c_165] at hm
                      refine aw_iload C 0 xd_R_use_168 rfl ?_
                      refine aw_iload C 1 xd_R_use_170 rfl ?_
                      refine aw_imul C xd_R_use_172 ?_
                      refine aw_goto (tgt := 204) C xd_R_use_173 (by decide) ?_
                      obtain ⟨q_204, e_204, hm⟩ := aw_bnd hm
                      refine aw_callVv (As := [.int (q_36.1 * q_21.1)]) (rest := []) (b := ad 0) C (xc_R_give s_124 (q_36.1 * q_21.1) _  e_204) rfl (gw_sub (gw_V xg_R_give ml_R_159 im_R_give se_R_give wi_R)) na_R_give (rm_lt (by decide) (by decide)) ⟨Nat.zero_le _, Nat.zero_le _⟩ 0 at_R rfl rfl (Nat.le_of_ble_eq_true rfl) xd_R_use_204 ?_
                      refine aw_iconst (v := (0 : Int32)) C xd_R_use_207 (by decide) ?_
                      cases hm
                      exact aw_iret C xd_R_use_208
                  · rw [if_pos c_151] at hm
                    refine aw_iload C 0 xd_R_use_154 rfl ?_
                    refine aw_iload C 1 xd_R_use_156 rfl ?_
                    refine aw_isub C xd_R_use_158 ?_
                    refine aw_goto (tgt := 204) C xd_R_use_159 (by decide) ?_
                    obtain ⟨q_204, e_204, hm⟩ := aw_bnd hm
                    refine aw_callVv (As := [.int (q_36.1 - q_21.1)]) (rest := []) (b := ad 0) C (xc_R_give s_124 (q_36.1 - q_21.1) _  e_204) rfl (gw_sub (gw_V xg_R_give ml_R_159 im_R_give se_R_give wi_R)) na_R_give (rm_lt (by decide) (by decide)) ⟨Nat.zero_le _, Nat.zero_le _⟩ 0 at_R rfl rfl (Nat.le_of_ble_eq_true rfl) xd_R_use_204 ?_
                    refine aw_iconst (v := (0 : Int32)) C xd_R_use_207 (by decide) ?_
                    cases hm
                    exact aw_iret C xd_R_use_208
                · rw [if_pos c_138] at hm
                  refine aw_iload C 0 xd_R_use_141 rfl ?_
                  refine aw_iload C 1 xd_R_use_143 rfl ?_
                  refine aw_iadd C xd_R_use_145 ?_
                  refine aw_goto (tgt := 204) C xd_R_use_146 (by decide) ?_
                  obtain ⟨q_204, e_204, hm⟩ := aw_bnd hm
                  refine aw_callVv (As := [.int (q_36.1 + q_21.1)]) (rest := []) (b := ad 0) C (xc_R_give s_124 (q_36.1 + q_21.1) _  e_204) rfl (gw_sub (gw_V xg_R_give ml_R_159 im_R_give se_R_give wi_R)) na_R_give (rm_lt (by decide) (by decide)) ⟨Nat.zero_le _, Nat.zero_le _⟩ 0 at_R rfl rfl (Nat.le_of_ble_eq_true rfl) xd_R_use_204 ?_
                  refine aw_iconst (v := (0 : Int32)) C xd_R_use_207 (by decide) ?_
                  cases hm
                  exact aw_iret C xd_R_use_208
              · rw [if_pos c_128] at hm
                refine aw_iload C 0 xd_R_use_131 rfl ?_
                refine aw_goto (tgt := 204) C xd_R_use_133 (by decide) ?_
                obtain ⟨q_204, e_204, hm⟩ := aw_bnd hm
                refine aw_callVv (As := [.int q_36.1]) (rest := []) (b := ad 0) C (xc_R_give s_124 q_36.1 _  e_204) rfl (gw_sub (gw_V xg_R_give ml_R_159 im_R_give se_R_give wi_R)) na_R_give (rm_lt (by decide) (by decide)) ⟨Nat.zero_le _, Nat.zero_le _⟩ 0 at_R rfl rfl (Nat.le_of_ble_eq_true rfl) xd_R_use_204 ?_
                refine aw_iconst (v := (0 : Int32)) C xd_R_use_207 (by decide) ?_
                cases hm
                exact aw_iret C xd_R_use_208
          · rw [if_pos c_92] at hm
            refine aw_bipush (v := (-8 : Int32)) C xd_R_use_95 (by decide) ?_
            cases hm
            exact aw_iret C xd_R_use_97
      · rw [if_pos c_48] at hm
        refine aw_iload_n C 6 xd_R_use_51 rfl rfl ?_
        refine aw_iconst (v := (5 : Int32)) C xd_R_use_52 (by decide) ?_
        refine aw_icmp_ne (tgt := 59) C xd_R_use_53 (by decide) (fun c_53 => ?_) (fun c_53 => ?_)
        · rw [if_neg c_53] at hm
          refine aw_aload_n C 4 xd_R_use_59 rfl rfl ?_
          refine aw_iload_n C 6 xd_R_use_60 rfl rfl ?_
          refine aw_iconst (v := (1 : Int32)) C xd_R_use_61 (by decide) ?_
          refine aw_iadd C xd_R_use_62 ?_
          refine aw_aload_n C 4 xd_R_use_63 rfl rfl ?_
          refine aw_get C 0 (by decide) rfl rfl (fun w h => List.mem_cons_of_mem _ (xi_R w h)) 6 (by decide) rfl (List.mem_cons_of_mem _ fl_R_28) xd_R_use_64 ?_
          refine aw_iload_n C 5 xd_R_use_67 rfl rfl ?_
          obtain ⟨g_68, hm⟩ := aw_grd hm
          refine aw_iald C 7 (by decide) 0 rfl rfl (aw_in_ok g_68) xd_R_use_68 ?_
          refine aw_aload_n C 4 xd_R_use_69 rfl rfl ?_
          refine aw_get C 0 (by decide) rfl rfl (fun w h => List.mem_cons_of_mem _ (xi_R w h)) 7 (by decide) rfl (List.mem_cons_of_mem _ fl_R_31) xd_R_use_70 ?_
          refine aw_iload_n C 5 xd_R_use_73 rfl rfl ?_
          obtain ⟨g_74, hm⟩ := aw_grd hm
          refine aw_iald C 8 (by decide) 0 rfl rfl (aw_in_ok g_74) xd_R_use_74 ?_
          refine aw_iload C 0 xd_R_use_75 rfl ?_
          refine aw_iload C 1 xd_R_use_77 rfl ?_
          obtain ⟨q_79, e_79, hm⟩ := aw_bnd hm
          refine aw_callVv (As := [.int (a2 + (1 : Int32)), .int (q_36.2 7 (Int32.toNatClampNeg a1)), .int (q_36.2 8 (Int32.toNatClampNeg a1)), .int q_36.1, .int q_21.1]) (rest := []) (b := ad 0) C (xc_R_enter q_36.2 (a2 + (1 : Int32)) (q_36.2 7 (Int32.toNatClampNeg a1)) (q_36.2 8 (Int32.toNatClampNeg a1)) q_36.1 q_21.1 _  e_79) rfl (gw_sub (gw_V xg_R_enter ml_R_136 im_R_enter se_R_enter wi_R)) na_R_enter (rm_lt (by decide) (by decide)) ⟨Nat.zero_le _, Nat.zero_le _⟩ 0 at_R rfl rfl (Nat.le_of_ble_eq_true rfl) xd_R_use_79 ?_
          refine aw_iconst (v := (0 : Int32)) C xd_R_use_82 (by decide) ?_
          cases hm
          exact aw_iret C xd_R_use_83
        · rw [if_pos c_53] at hm
          refine aw_bipush (v := (-9 : Int32)) C xd_R_use_56 (by decide) ?_
          cases hm
          exact aw_iret C xd_R_use_58
def xm_R_begin2 (σ : aw_m) (a1 : Int32) (a2 : Int32) : Option aw_m := aw_l (aw_p σ 0 15 ((σ 0 15) + (1 : Int32))) fun s_7 => if aw_in a1 546 = true then (if s_7 6 (Int32.toNatClampNeg a1) = 0 then if aw_in a1 546 = true then (xm_R_give s_7 (s_7 7 (Int32.toNatClampNeg a1))).bind fun q_28 => some q_28 else none else (if s_7 6 (Int32.toNatClampNeg a1) = (1 : Int32) then if aw_in a1 546 = true then (if s_7 7 (Int32.toNatClampNeg a1) = 0 then if aw_in a2 6 = true then (xm_R_give s_7 (s_7 22 (Int32.toNatClampNeg a2))).bind fun q_64 => some q_64 else none else if aw_in a2 6 = true then (xm_R_give s_7 (s_7 23 (Int32.toNatClampNeg a2))).bind fun q_64 => some q_64 else none) else none else (if s_7 6 (Int32.toNatClampNeg a1) = (2 : Int32) then if aw_in a1 546 = true then if aw_in a1 546 = true then if aw_in (((3 : Int32) * (s_7 7 (Int32.toNatClampNeg a1))) + (s_7 8 (Int32.toNatClampNeg a1))) 18 = true then (xm_R_give s_7 (s_7 12 (Int32.toNatClampNeg (((3 : Int32) * (s_7 7 (Int32.toNatClampNeg a1))) + (s_7 8 (Int32.toNatClampNeg a1)))))).bind fun q_96 => some q_96 else none else none else none else (if s_7 6 (Int32.toNatClampNeg a1) = (9 : Int32) then (xm_R_push s_7 (3 : Int32) a1 a2).bind fun q_112 => (xm_R_push q_112 (0 : Int32) (a1 + (1 : Int32)) a2).bind fun q_121 => some q_121 else (if s_7 6 (Int32.toNatClampNeg a1) = (10 : Int32) then (xm_R_end s_7 (a1 + (1 : Int32))).bind fun q_139 => (xm_R_push s_7 (0 : Int32) q_139 a2).bind fun q_143 => (xm_R_push q_143 (2 : Int32) a1 a2).bind fun q_150 => (xm_R_push q_150 (0 : Int32) (a1 + (1 : Int32)) a2).bind fun q_159 => some q_159 else (xm_R_push s_7 (1 : Int32) a1 a2).bind fun q_169 => (xm_R_parts q_169 a1).bind fun q_174 => (if q_174 = (2 : Int32) then (xm_R_end q_169 (a1 + (1 : Int32))).bind fun q_191 => (xm_R_push q_169 (0 : Int32) q_191 a2).bind fun q_195 => (if q_174 ≤ 0 then some q_195 else (xm_R_push q_195 (0 : Int32) (a1 + (1 : Int32)) a2).bind fun q_209 => some q_209) else (if q_174 ≤ 0 then some q_169 else (xm_R_push q_169 (0 : Int32) (a1 + (1 : Int32)) a2).bind fun q_209 => some q_209))))))) else none
set_option maxHeartbeats 4000000 in
set_option maxRecDepth 100000 in
theorem xc_R_begin2 (σ : aw_m) (a1 : Int32) (a2 : Int32) (q : aw_m)  (hm : xm_R_begin2 σ a1 a2 = some q) : aw_M l D (ty_z ids) (zs_T ps) xy_R_begin2 (xw_R_begin2 :: gw_l) (rm_D (2)) [.ref (ad 0), .int a1, .int a2] (rw_w ad ids σ) none (rw_w ad ids q) := by
  refine aw_intro (cc := xb_R_begin2) (n := 5) (ret := none) "ModuleShelfModel" rfl (by decide) rfl (Nat.le_of_ble_eq_true rfl) ?_
  intro κ C
  unfold xm_R_begin2 at hm
  refine aw_aload_n C 0 xd_R_begin2_0 rfl rfl ?_
  refine aw_dup C xd_R_begin2_1 rfl ?_
  refine aw_get C 0 (by decide) rfl rfl (fun w h => List.mem_cons_of_mem _ (xi_R w h)) 15 (by decide) rfl (List.mem_cons_of_mem _ fl_R_133) xd_R_begin2_2 ?_
  refine aw_iconst (v := (1 : Int32)) C xd_R_begin2_5 (by decide) ?_
  refine aw_iadd C xd_R_begin2_6 ?_
  obtain ⟨s_7, h_7, hm⟩ := aw_let hm
  refine aw_put (σ1 := s_7) (f := upd (σ 0) 15 ((σ 0 15) + (1 : Int32))) C 0 (by decide) rfl rfl (fun w h => List.mem_cons_of_mem _ (xi_R w h)) xk_R xo_R xn_R 15 (by decide) (List.mem_cons_of_mem _ fl_R_133) rfl (ty := .int) (by decide +kernel) rfl rfl (Nat.le_of_ble_eq_true rfl) rfl h_7 xd_R_begin2_7 ?_
  refine aw_aload_n C 0 xd_R_begin2_10 rfl rfl ?_
  refine aw_get C 0 (by decide) rfl rfl (fun w h => List.mem_cons_of_mem _ (xi_R w h)) 5 (by decide) rfl (List.mem_cons_of_mem _ fl_R_25) xd_R_begin2_11 ?_
  refine aw_iload_n C 1 xd_R_begin2_14 rfl rfl ?_
  obtain ⟨g_15, hm⟩ := aw_grd hm
  refine aw_iald C 6 (by decide) 0 rfl rfl (aw_in_ok g_15) xd_R_begin2_15 ?_
  refine aw_istore_n (L' := [(3, .int (s_7 6 (Int32.toNatClampNeg a1))), (0, .ref (ad 0)), (1, .int a1), (2, .int a2)]) C xd_R_begin2_16 rfl (by decide) rfl ?_
  refine aw_iload_n C 0 xd_R_begin2_17 rfl rfl ?_
  refine aw_if_ne (tgt := 34) C xd_R_begin2_18 (by decide) (fun c_18 => ?_) (fun c_18 => ?_)
  · rw [if_neg c_18] at hm
    refine aw_iload_n C 0 xd_R_begin2_34 rfl rfl ?_
    refine aw_iconst (v := (1 : Int32)) C xd_R_begin2_35 (by decide) ?_
    refine aw_icmp_ne (tgt := 70) C xd_R_begin2_36 (by decide) (fun c_36 => ?_) (fun c_36 => ?_)
    · rw [if_neg c_36] at hm
      refine aw_iload_n C 0 xd_R_begin2_70 rfl rfl ?_
      refine aw_iconst (v := (2 : Int32)) C xd_R_begin2_71 (by decide) ?_
      refine aw_icmp_ne (tgt := 102) C xd_R_begin2_72 (by decide) (fun c_72 => ?_) (fun c_72 => ?_)
      · rw [if_neg c_72] at hm
        refine aw_iload_n C 0 xd_R_begin2_102 rfl rfl ?_
        refine aw_bipush (v := (9 : Int32)) C xd_R_begin2_103 (by decide) ?_
        refine aw_icmp_ne (tgt := 127) C xd_R_begin2_105 (by decide) (fun c_105 => ?_) (fun c_105 => ?_)
        · rw [if_neg c_105] at hm
          refine aw_iload_n C 0 xd_R_begin2_127 rfl rfl ?_
          refine aw_bipush (v := (10 : Int32)) C xd_R_begin2_128 (by decide) ?_
          refine aw_icmp_ne (tgt := 165) C xd_R_begin2_130 (by decide) (fun c_130 => ?_) (fun c_130 => ?_)
          · rw [if_neg c_130] at hm
            refine aw_aload_n C 1 xd_R_begin2_165 rfl rfl ?_
            refine aw_iconst (v := (1 : Int32)) C xd_R_begin2_166 (by decide) ?_
            refine aw_iload_n C 2 xd_R_begin2_167 rfl rfl ?_
            refine aw_iload_n C 3 xd_R_begin2_168 rfl rfl ?_
            obtain ⟨q_169, e_169, hm⟩ := aw_bnd hm
            refine aw_callVv (As := [.int (1 : Int32), .int a1, .int a2]) (rest := []) (b := ad 0) C (xc_R_push s_7 (1 : Int32) a1 a2 _  e_169) rfl (gw_sub (gw_V xg_R_push ml_R_152 im_R_push se_R_push wi_R)) na_R_push (rm_lt (by decide) (by decide)) ⟨Nat.zero_le _, Nat.zero_le _⟩ 0 at_R rfl rfl (Nat.le_of_ble_eq_true rfl) xd_R_begin2_169 ?_
            refine aw_aload_n C 1 xd_R_begin2_172 rfl rfl ?_
            refine aw_iload_n C 2 xd_R_begin2_173 rfl rfl ?_
            obtain ⟨q_174, e_174, hm⟩ := aw_bnd hm
            refine aw_callVi (As := [.int a1]) (rest := []) (b := ad 0) C (xc_R_parts q_169 a1 _  e_174) rfl (gw_sub (gw_V xg_R_parts ml_R_130 im_R_parts se_R_parts wi_R)) na_R_parts (rm_lt (by decide) (by decide)) ⟨Nat.zero_le _, Nat.zero_le _⟩ 0 at_R rfl rfl (Nat.le_of_ble_eq_true rfl) xd_R_begin2_174 ?_
            refine aw_istore (L' := [(4, .int q_174), (3, .int (s_7 6 (Int32.toNatClampNeg a1))), (0, .ref (ad 0)), (1, .int a1), (2, .int a2)]) C xd_R_begin2_177 (by decide) rfl ?_
            refine aw_iload C 0 xd_R_begin2_179 rfl ?_
            refine aw_iconst (v := (2 : Int32)) C xd_R_begin2_181 (by decide) ?_
            refine aw_icmp_ne (tgt := 198) C xd_R_begin2_182 (by decide) (fun c_182 => ?_) (fun c_182 => ?_)
            · rw [if_neg c_182] at hm
              refine aw_iload C 0 xd_R_begin2_198 rfl ?_
              refine aw_if_le (tgt := 212) C xd_R_begin2_200 (by decide) (fun c_200 => ?_) (fun c_200 => ?_)
              · rw [if_pos c_200] at hm
                cases hm
                exact aw_vret C xd_R_begin2_212
              · rw [if_neg c_200] at hm
                refine aw_aload_n C 2 xd_R_begin2_203 rfl rfl ?_
                refine aw_iconst (v := (0 : Int32)) C xd_R_begin2_204 (by decide) ?_
                refine aw_iload_n C 3 xd_R_begin2_205 rfl rfl ?_
                refine aw_iconst (v := (1 : Int32)) C xd_R_begin2_206 (by decide) ?_
                refine aw_iadd C xd_R_begin2_207 ?_
                refine aw_iload_n C 4 xd_R_begin2_208 rfl rfl ?_
                obtain ⟨q_209, e_209, hm⟩ := aw_bnd hm
                refine aw_callVv (As := [.int (0 : Int32), .int (a1 + (1 : Int32)), .int a2]) (rest := []) (b := ad 0) C (xc_R_push q_169 (0 : Int32) (a1 + (1 : Int32)) a2 _  e_209) rfl (gw_sub (gw_V xg_R_push ml_R_152 im_R_push se_R_push wi_R)) na_R_push (rm_lt (by decide) (by decide)) ⟨Nat.zero_le _, Nat.zero_le _⟩ 0 at_R rfl rfl (Nat.le_of_ble_eq_true rfl) xd_R_begin2_209 ?_
                cases hm
                exact aw_vret C xd_R_begin2_212
            · rw [if_pos c_182] at hm
              refine aw_aload_n C 2 xd_R_begin2_185 rfl rfl ?_
              refine aw_iconst (v := (0 : Int32)) C xd_R_begin2_186 (by decide) ?_
              refine aw_aload_n C 2 xd_R_begin2_187 rfl rfl ?_
              refine aw_iload_n C 3 xd_R_begin2_188 rfl rfl ?_
              refine aw_iconst (v := (1 : Int32)) C xd_R_begin2_189 (by decide) ?_
              refine aw_iadd C xd_R_begin2_190 ?_
              obtain ⟨q_191, e_191, hm⟩ := aw_bnd hm
              refine aw_callVi (As := [.int (a1 + (1 : Int32))]) (rest := [.int (0 : Int32), .ref (ad 0)]) (b := ad 0) C (xc_R_end q_169 (a1 + (1 : Int32)) _  e_191) rfl (gw_sub (gw_V xg_R_end ml_R_149 im_R_end se_R_end wi_R)) na_R_end (rm_lt (by decide) (by decide)) ⟨Nat.zero_le _, Nat.zero_le _⟩ 0 at_R rfl rfl (Nat.le_of_ble_eq_true rfl) xd_R_begin2_191 ?_
              refine aw_iload_n C 4 xd_R_begin2_194 rfl rfl ?_
              obtain ⟨q_195, e_195, hm⟩ := aw_bnd hm
              refine aw_callVv (As := [.int (0 : Int32), .int q_191, .int a2]) (rest := []) (b := ad 0) C (xc_R_push q_169 (0 : Int32) q_191 a2 _  e_195) rfl (gw_sub (gw_V xg_R_push ml_R_152 im_R_push se_R_push wi_R)) na_R_push (rm_lt (by decide) (by decide)) ⟨Nat.zero_le _, Nat.zero_le _⟩ 0 at_R rfl rfl (Nat.le_of_ble_eq_true rfl) xd_R_begin2_195 ?_
              refine aw_iload C 0 xd_R_begin2_198 rfl ?_
              refine aw_if_le (tgt := 212) C xd_R_begin2_200 (by decide) (fun c_200 => ?_) (fun c_200 => ?_)
              · rw [if_pos c_200] at hm
                cases hm
                exact aw_vret C xd_R_begin2_212
              · rw [if_neg c_200] at hm
                refine aw_aload_n C 2 xd_R_begin2_203 rfl rfl ?_
                refine aw_iconst (v := (0 : Int32)) C xd_R_begin2_204 (by decide) ?_
                refine aw_iload_n C 3 xd_R_begin2_205 rfl rfl ?_
                refine aw_iconst (v := (1 : Int32)) C xd_R_begin2_206 (by decide) ?_
                refine aw_iadd C xd_R_begin2_207 ?_
                refine aw_iload_n C 4 xd_R_begin2_208 rfl rfl ?_
                obtain ⟨q_209, e_209, hm⟩ := aw_bnd hm
                refine aw_callVv (As := [.int (0 : Int32), .int (a1 + (1 : Int32)), .int a2]) (rest := []) (b := ad 0) C (xc_R_push q_195 (0 : Int32) (a1 + (1 : Int32)) a2 _  e_209) rfl (gw_sub (gw_V xg_R_push ml_R_152 im_R_push se_R_push wi_R)) na_R_push (rm_lt (by decide) (by decide)) ⟨Nat.zero_le _, Nat.zero_le _⟩ 0 at_R rfl rfl (Nat.le_of_ble_eq_true rfl) xd_R_begin2_209 ?_
                cases hm
                exact aw_vret C xd_R_begin2_212
          · rw [if_pos c_130] at hm
            refine aw_aload_n C 1 xd_R_begin2_133 rfl rfl ?_
            refine aw_iconst (v := (0 : Int32)) C xd_R_begin2_134 (by decide) ?_
            refine aw_aload_n C 1 xd_R_begin2_135 rfl rfl ?_
            refine aw_iload_n C 2 xd_R_begin2_136 rfl rfl ?_
            refine aw_iconst (v := (1 : Int32)) C xd_R_begin2_137 (by decide) ?_
            refine aw_iadd C xd_R_begin2_138 ?_
            obtain ⟨q_139, e_139, hm⟩ := aw_bnd hm
            refine aw_callVi (As := [.int (a1 + (1 : Int32))]) (rest := [.int (0 : Int32), .ref (ad 0)]) (b := ad 0) C (xc_R_end s_7 (a1 + (1 : Int32)) _  e_139) rfl (gw_sub (gw_V xg_R_end ml_R_149 im_R_end se_R_end wi_R)) na_R_end (rm_lt (by decide) (by decide)) ⟨Nat.zero_le _, Nat.zero_le _⟩ 0 at_R rfl rfl (Nat.le_of_ble_eq_true rfl) xd_R_begin2_139 ?_
            refine aw_iload_n C 3 xd_R_begin2_142 rfl rfl ?_
            obtain ⟨q_143, e_143, hm⟩ := aw_bnd hm
            refine aw_callVv (As := [.int (0 : Int32), .int q_139, .int a2]) (rest := []) (b := ad 0) C (xc_R_push s_7 (0 : Int32) q_139 a2 _  e_143) rfl (gw_sub (gw_V xg_R_push ml_R_152 im_R_push se_R_push wi_R)) na_R_push (rm_lt (by decide) (by decide)) ⟨Nat.zero_le _, Nat.zero_le _⟩ 0 at_R rfl rfl (Nat.le_of_ble_eq_true rfl) xd_R_begin2_143 ?_
            refine aw_aload_n C 1 xd_R_begin2_146 rfl rfl ?_
            refine aw_iconst (v := (2 : Int32)) C xd_R_begin2_147 (by decide) ?_
            refine aw_iload_n C 2 xd_R_begin2_148 rfl rfl ?_
            refine aw_iload_n C 3 xd_R_begin2_149 rfl rfl ?_
            obtain ⟨q_150, e_150, hm⟩ := aw_bnd hm
            refine aw_callVv (As := [.int (2 : Int32), .int a1, .int a2]) (rest := []) (b := ad 0) C (xc_R_push q_143 (2 : Int32) a1 a2 _  e_150) rfl (gw_sub (gw_V xg_R_push ml_R_152 im_R_push se_R_push wi_R)) na_R_push (rm_lt (by decide) (by decide)) ⟨Nat.zero_le _, Nat.zero_le _⟩ 0 at_R rfl rfl (Nat.le_of_ble_eq_true rfl) xd_R_begin2_150 ?_
            refine aw_aload_n C 1 xd_R_begin2_153 rfl rfl ?_
            refine aw_iconst (v := (0 : Int32)) C xd_R_begin2_154 (by decide) ?_
            refine aw_iload_n C 2 xd_R_begin2_155 rfl rfl ?_
            refine aw_iconst (v := (1 : Int32)) C xd_R_begin2_156 (by decide) ?_
            refine aw_iadd C xd_R_begin2_157 ?_
            refine aw_iload_n C 3 xd_R_begin2_158 rfl rfl ?_
            obtain ⟨q_159, e_159, hm⟩ := aw_bnd hm
            refine aw_callVv (As := [.int (0 : Int32), .int (a1 + (1 : Int32)), .int a2]) (rest := []) (b := ad 0) C (xc_R_push q_150 (0 : Int32) (a1 + (1 : Int32)) a2 _  e_159) rfl (gw_sub (gw_V xg_R_push ml_R_152 im_R_push se_R_push wi_R)) na_R_push (rm_lt (by decide) (by decide)) ⟨Nat.zero_le _, Nat.zero_le _⟩ 0 at_R rfl rfl (Nat.le_of_ble_eq_true rfl) xd_R_begin2_159 ?_
            refine aw_goto (tgt := 212) C xd_R_begin2_162 (by decide) ?_
            cases hm
            exact aw_vret C xd_R_begin2_212
        · rw [if_pos c_105] at hm
          refine aw_aload_n C 1 xd_R_begin2_108 rfl rfl ?_
          refine aw_iconst (v := (3 : Int32)) C xd_R_begin2_109 (by decide) ?_
          refine aw_iload_n C 2 xd_R_begin2_110 rfl rfl ?_
          refine aw_iload_n C 3 xd_R_begin2_111 rfl rfl ?_
          obtain ⟨q_112, e_112, hm⟩ := aw_bnd hm
          refine aw_callVv (As := [.int (3 : Int32), .int a1, .int a2]) (rest := []) (b := ad 0) C (xc_R_push s_7 (3 : Int32) a1 a2 _  e_112) rfl (gw_sub (gw_V xg_R_push ml_R_152 im_R_push se_R_push wi_R)) na_R_push (rm_lt (by decide) (by decide)) ⟨Nat.zero_le _, Nat.zero_le _⟩ 0 at_R rfl rfl (Nat.le_of_ble_eq_true rfl) xd_R_begin2_112 ?_
          refine aw_aload_n C 1 xd_R_begin2_115 rfl rfl ?_
          refine aw_iconst (v := (0 : Int32)) C xd_R_begin2_116 (by decide) ?_
          refine aw_iload_n C 2 xd_R_begin2_117 rfl rfl ?_
          refine aw_iconst (v := (1 : Int32)) C xd_R_begin2_118 (by decide) ?_
          refine aw_iadd C xd_R_begin2_119 ?_
          refine aw_iload_n C 3 xd_R_begin2_120 rfl rfl ?_
          obtain ⟨q_121, e_121, hm⟩ := aw_bnd hm
          refine aw_callVv (As := [.int (0 : Int32), .int (a1 + (1 : Int32)), .int a2]) (rest := []) (b := ad 0) C (xc_R_push q_112 (0 : Int32) (a1 + (1 : Int32)) a2 _  e_121) rfl (gw_sub (gw_V xg_R_push ml_R_152 im_R_push se_R_push wi_R)) na_R_push (rm_lt (by decide) (by decide)) ⟨Nat.zero_le _, Nat.zero_le _⟩ 0 at_R rfl rfl (Nat.le_of_ble_eq_true rfl) xd_R_begin2_121 ?_
          refine aw_goto (tgt := 212) C xd_R_begin2_124 (by decide) ?_
          cases hm
          exact aw_vret C xd_R_begin2_212
      · rw [if_pos c_72] at hm
        refine aw_aload_n C 1 xd_R_begin2_75 rfl rfl ?_
        refine aw_aload_n C 1 xd_R_begin2_76 rfl rfl ?_
        refine aw_get C 0 (by decide) rfl rfl (fun w h => List.mem_cons_of_mem _ (xi_R w h)) 11 (by decide) rfl (List.mem_cons_of_mem _ fl_R_43) xd_R_begin2_77 ?_
        refine aw_iconst (v := (3 : Int32)) C xd_R_begin2_80 (by decide) ?_
        refine aw_aload_n C 1 xd_R_begin2_81 rfl rfl ?_
        refine aw_get C 0 (by decide) rfl rfl (fun w h => List.mem_cons_of_mem _ (xi_R w h)) 6 (by decide) rfl (List.mem_cons_of_mem _ fl_R_28) xd_R_begin2_82 ?_
        refine aw_iload_n C 2 xd_R_begin2_85 rfl rfl ?_
        obtain ⟨g_86, hm⟩ := aw_grd hm
        refine aw_iald C 7 (by decide) 0 rfl rfl (aw_in_ok g_86) xd_R_begin2_86 ?_
        refine aw_imul C xd_R_begin2_87 ?_
        refine aw_aload_n C 1 xd_R_begin2_88 rfl rfl ?_
        refine aw_get C 0 (by decide) rfl rfl (fun w h => List.mem_cons_of_mem _ (xi_R w h)) 7 (by decide) rfl (List.mem_cons_of_mem _ fl_R_31) xd_R_begin2_89 ?_
        refine aw_iload_n C 2 xd_R_begin2_92 rfl rfl ?_
        obtain ⟨g_93, hm⟩ := aw_grd hm
        refine aw_iald C 8 (by decide) 0 rfl rfl (aw_in_ok g_93) xd_R_begin2_93 ?_
        refine aw_iadd C xd_R_begin2_94 ?_
        obtain ⟨g_95, hm⟩ := aw_grd hm
        refine aw_iald C 12 (by decide) 0 rfl rfl (aw_in_ok g_95) xd_R_begin2_95 ?_
        obtain ⟨q_96, e_96, hm⟩ := aw_bnd hm
        refine aw_callVv (As := [.int (s_7 12 (Int32.toNatClampNeg (((3 : Int32) * (s_7 7 (Int32.toNatClampNeg a1))) + (s_7 8 (Int32.toNatClampNeg a1)))))]) (rest := []) (b := ad 0) C (xc_R_give s_7 (s_7 12 (Int32.toNatClampNeg (((3 : Int32) * (s_7 7 (Int32.toNatClampNeg a1))) + (s_7 8 (Int32.toNatClampNeg a1))))) _  e_96) rfl (gw_sub (gw_V xg_R_give ml_R_159 im_R_give se_R_give wi_R)) na_R_give (rm_lt (by decide) (by decide)) ⟨Nat.zero_le _, Nat.zero_le _⟩ 0 at_R rfl rfl (Nat.le_of_ble_eq_true rfl) xd_R_begin2_96 ?_
        refine aw_goto (tgt := 212) C xd_R_begin2_99 (by decide) ?_
        cases hm
        exact aw_vret C xd_R_begin2_212
    · rw [if_pos c_36] at hm
      refine aw_aload_n C 1 xd_R_begin2_39 rfl rfl ?_
      refine aw_aload_n C 1 xd_R_begin2_40 rfl rfl ?_
      refine aw_get C 0 (by decide) rfl rfl (fun w h => List.mem_cons_of_mem _ (xi_R w h)) 6 (by decide) rfl (List.mem_cons_of_mem _ fl_R_28) xd_R_begin2_41 ?_
      refine aw_iload_n C 2 xd_R_begin2_44 rfl rfl ?_
      obtain ⟨g_45, hm⟩ := aw_grd hm
      refine aw_iald C 7 (by decide) 0 rfl rfl (aw_in_ok g_45) xd_R_begin2_45 ?_
      refine aw_if_ne (tgt := 58) C xd_R_begin2_46 (by decide) (fun c_46 => ?_) (fun c_46 => ?_)
      · rw [if_neg c_46] at hm
        refine aw_aload_n C 1 xd_R_begin2_58 rfl rfl ?_
        refine aw_get C 0 (by decide) rfl rfl (fun w h => List.mem_cons_of_mem _ (xi_R w h)) 28 (by decide) rfl (List.mem_cons_of_mem _ fl_R_80) xd_R_begin2_59 ?_
        refine aw_iload_n C 3 xd_R_begin2_62 rfl rfl ?_
        obtain ⟨g_63, hm⟩ := aw_grd hm
        refine aw_iald C 23 (by decide) 0 rfl rfl (aw_in_ok g_63) xd_R_begin2_63 ?_
        obtain ⟨q_64, e_64, hm⟩ := aw_bnd hm
        refine aw_callVv (As := [.int (s_7 23 (Int32.toNatClampNeg a2))]) (rest := []) (b := ad 0) C (xc_R_give s_7 (s_7 23 (Int32.toNatClampNeg a2)) _  e_64) rfl (gw_sub (gw_V xg_R_give ml_R_159 im_R_give se_R_give wi_R)) na_R_give (rm_lt (by decide) (by decide)) ⟨Nat.zero_le _, Nat.zero_le _⟩ 0 at_R rfl rfl (Nat.le_of_ble_eq_true rfl) xd_R_begin2_64 ?_
        refine aw_goto (tgt := 212) C xd_R_begin2_67 (by decide) ?_
        cases hm
        exact aw_vret C xd_R_begin2_212
      · rw [if_pos c_46] at hm
        refine aw_aload_n C 1 xd_R_begin2_49 rfl rfl ?_
        refine aw_get C 0 (by decide) rfl rfl (fun w h => List.mem_cons_of_mem _ (xi_R w h)) 27 (by decide) rfl (List.mem_cons_of_mem _ fl_R_77) xd_R_begin2_50 ?_
        refine aw_iload_n C 3 xd_R_begin2_53 rfl rfl ?_
        obtain ⟨g_54, hm⟩ := aw_grd hm
        refine aw_iald C 22 (by decide) 0 rfl rfl (aw_in_ok g_54) xd_R_begin2_54 ?_
        refine aw_goto (tgt := 64) C xd_R_begin2_55 (by decide) ?_
        obtain ⟨q_64, e_64, hm⟩ := aw_bnd hm
        refine aw_callVv (As := [.int (s_7 22 (Int32.toNatClampNeg a2))]) (rest := []) (b := ad 0) C (xc_R_give s_7 (s_7 22 (Int32.toNatClampNeg a2)) _  e_64) rfl (gw_sub (gw_V xg_R_give ml_R_159 im_R_give se_R_give wi_R)) na_R_give (rm_lt (by decide) (by decide)) ⟨Nat.zero_le _, Nat.zero_le _⟩ 0 at_R rfl rfl (Nat.le_of_ble_eq_true rfl) xd_R_begin2_64 ?_
        refine aw_goto (tgt := 212) C xd_R_begin2_67 (by decide) ?_
        cases hm
        exact aw_vret C xd_R_begin2_212
  · rw [if_pos c_18] at hm
    refine aw_aload_n C 1 xd_R_begin2_21 rfl rfl ?_
    refine aw_aload_n C 1 xd_R_begin2_22 rfl rfl ?_
    refine aw_get C 0 (by decide) rfl rfl (fun w h => List.mem_cons_of_mem _ (xi_R w h)) 6 (by decide) rfl (List.mem_cons_of_mem _ fl_R_28) xd_R_begin2_23 ?_
    refine aw_iload_n C 2 xd_R_begin2_26 rfl rfl ?_
    obtain ⟨g_27, hm⟩ := aw_grd hm
    refine aw_iald C 7 (by decide) 0 rfl rfl (aw_in_ok g_27) xd_R_begin2_27 ?_
    obtain ⟨q_28, e_28, hm⟩ := aw_bnd hm
    refine aw_callVv (As := [.int (s_7 7 (Int32.toNatClampNeg a1))]) (rest := []) (b := ad 0) C (xc_R_give s_7 (s_7 7 (Int32.toNatClampNeg a1)) _  e_28) rfl (gw_sub (gw_V xg_R_give ml_R_159 im_R_give se_R_give wi_R)) na_R_give (rm_lt (by decide) (by decide)) ⟨Nat.zero_le _, Nat.zero_le _⟩ 0 at_R rfl rfl (Nat.le_of_ble_eq_true rfl) xd_R_begin2_28 ?_
    refine aw_goto (tgt := 212) C xd_R_begin2_31 (by decide) ?_
    cases hm
    exact aw_vret C xd_R_begin2_212
end
