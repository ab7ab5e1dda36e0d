theorem xd_F_init_0 : decode xb_F_init 0 = .ok (.aload_n 0, 1) := by decide +kernel
theorem xd_F_init_1 : decode xb_F_init 1 = .ok (.invokespecial 1, 3) := by decide +kernel
theorem xd_F_init_4 : decode xb_F_init 4 = .ok (.return_, 1) := by decide +kernel
theorem xd_C_init_0 : decode xb_C_init 0 = .ok (.aload_n 0, 1) := by decide +kernel
theorem xd_C_init_1 : decode xb_C_init 1 = .ok (.invokespecial 3, 3) := by decide +kernel
theorem xd_C_init_4 : decode xb_C_init 4 = .ok (.aload_n 0, 1) := by decide +kernel
theorem xd_C_init_5 : decode xb_C_init 5 = .ok (.iconst 3, 1) := by decide +kernel
theorem xd_C_init_6 : decode xb_C_init 6 = .ok (.newarray .int, 2) := by decide +kernel
theorem xd_C_init_8 : decode xb_C_init 8 = .ok (.putfield 9, 3) := by decide +kernel
theorem xd_C_init_11 : decode xb_C_init 11 = .ok (.aload_n 0, 1) := by decide +kernel
theorem xd_C_init_12 : decode xb_C_init 12 = .ok (.iconst 3, 1) := by decide +kernel
theorem xd_C_init_13 : decode xb_C_init 13 = .ok (.newarray .int, 2) := by decide +kernel
theorem xd_C_init_15 : decode xb_C_init 15 = .ok (.putfield 15, 3) := by decide +kernel
theorem xd_C_init_18 : decode xb_C_init 18 = .ok (.aload_n 0, 1) := by decide +kernel
theorem xd_C_init_19 : decode xb_C_init 19 = .ok (.bipush 42, 2) := by decide +kernel
theorem xd_C_init_21 : decode xb_C_init 21 = .ok (.newarray .int, 2) := by decide +kernel
theorem xd_C_init_23 : decode xb_C_init 23 = .ok (.putfield 18, 3) := by decide +kernel
theorem xd_C_init_26 : decode xb_C_init 26 = .ok (.aload_n 0, 1) := by decide +kernel
theorem xd_C_init_27 : decode xb_C_init 27 = .ok (.bipush 42, 2) := by decide +kernel
theorem xd_C_init_29 : decode xb_C_init 29 = .ok (.newarray .int, 2) := by decide +kernel
theorem xd_C_init_31 : decode xb_C_init 31 = .ok (.putfield 21, 3) := by decide +kernel
theorem xd_C_init_34 : decode xb_C_init 34 = .ok (.aload_n 0, 1) := by decide +kernel
theorem xd_C_init_35 : decode xb_C_init 35 = .ok (.bipush 42, 2) := by decide +kernel
theorem xd_C_init_37 : decode xb_C_init 37 = .ok (.newarray .int, 2) := by decide +kernel
theorem xd_C_init_39 : decode xb_C_init 39 = .ok (.putfield 24, 3) := by decide +kernel
theorem xd_C_init_42 : decode xb_C_init 42 = .ok (.return_, 1) := by decide +kernel
theorem xd_U_init_0 : decode xb_U_init 0 = .ok (.aload_n 0, 1) := by decide +kernel
theorem xd_U_init_1 : decode xb_U_init 1 = .ok (.invokespecial 3, 3) := by decide +kernel
theorem xd_U_init_4 : decode xb_U_init 4 = .ok (.aload_n 0, 1) := by decide +kernel
theorem xd_U_init_5 : decode xb_U_init 5 = .ok (.bipush 6, 2) := by decide +kernel
theorem xd_U_init_7 : decode xb_U_init 7 = .ok (.newarray .int, 2) := by decide +kernel
theorem xd_U_init_9 : decode xb_U_init 9 = .ok (.putfield 9, 3) := by decide +kernel
theorem xd_U_init_12 : decode xb_U_init 12 = .ok (.aload_n 0, 1) := by decide +kernel
theorem xd_U_init_13 : decode xb_U_init 13 = .ok (.bipush 6, 2) := by decide +kernel
theorem xd_U_init_15 : decode xb_U_init 15 = .ok (.newarray .int, 2) := by decide +kernel
theorem xd_U_init_17 : decode xb_U_init 17 = .ok (.putfield 15, 3) := by decide +kernel
theorem xd_U_init_20 : decode xb_U_init 20 = .ok (.aload_n 0, 1) := by decide +kernel
theorem xd_U_init_21 : decode xb_U_init 21 = .ok (.new 18, 3) := by decide +kernel
theorem xd_U_init_24 : decode xb_U_init 24 = .ok (.dup, 1) := by decide +kernel
theorem xd_U_init_25 : decode xb_U_init 25 = .ok (.invokespecial 20, 3) := by decide +kernel
theorem xd_U_init_28 : decode xb_U_init 28 = .ok (.putfield 21, 3) := by decide +kernel
theorem xd_U_init_31 : decode xb_U_init 31 = .ok (.return_, 1) := by decide +kernel
theorem xd_I_init_0 : decode xb_I_init 0 = .ok (.aload_n 0, 1) := by decide +kernel
theorem xd_I_init_1 : decode xb_I_init 1 = .ok (.invokespecial 3, 3) := by decide +kernel
theorem xd_I_init_4 : decode xb_I_init 4 = .ok (.aload_n 0, 1) := by decide +kernel
theorem xd_I_init_5 : decode xb_I_init 5 = .ok (.new 9, 3) := by decide +kernel
theorem xd_I_init_8 : decode xb_I_init 8 = .ok (.dup, 1) := by decide +kernel
theorem xd_I_init_9 : decode xb_I_init 9 = .ok (.invokespecial 11, 3) := by decide +kernel
theorem xd_I_init_12 : decode xb_I_init 12 = .ok (.putfield 12, 3) := by decide +kernel
theorem xd_I_init_15 : decode xb_I_init 15 = .ok (.aload_n 0, 1) := by decide +kernel
theorem xd_I_init_16 : decode xb_I_init 16 = .ok (.iconst 3, 1) := by decide +kernel
theorem xd_I_init_17 : decode xb_I_init 17 = .ok (.newarray .int, 2) := by decide +kernel
theorem xd_I_init_19 : decode xb_I_init 19 = .ok (.putfield 18, 3) := by decide +kernel
theorem xd_I_init_22 : decode xb_I_init 22 = .ok (.return_, 1) := by decide +kernel
theorem xd_L_init_0 : decode xb_L_init 0 = .ok (.aload_n 0, 1) := by decide +kernel
theorem xd_L_init_1 : decode xb_L_init 1 = .ok (.invokespecial 3, 3) := by decide +kernel
theorem xd_L_init_4 : decode xb_L_init 4 = .ok (.aload_n 0, 1) := by decide +kernel
theorem xd_L_init_5 : decode xb_L_init 5 = .ok (.bipush 6, 2) := by decide +kernel
theorem xd_L_init_7 : decode xb_L_init 7 = .ok (.anewarray 9, 3) := by decide +kernel
theorem xd_L_init_10 : decode xb_L_init 10 = .ok (.putfield 11, 3) := by decide +kernel
theorem xd_L_init_13 : decode xb_L_init 13 = .ok (.iconst 0, 1) := by decide +kernel
theorem xd_L_init_14 : decode xb_L_init 14 = .ok (.istore_n 1, 1) := by decide +kernel
theorem xd_L_init_15 : decode xb_L_init 15 = .ok (.iload_n 1, 1) := by decide +kernel
theorem xd_L_init_16 : decode xb_L_init 16 = .ok (.bipush 6, 2) := by decide +kernel
theorem xd_L_init_18 : decode xb_L_init 18 = .ok (.if_icmp .ge 22, 3) := by decide +kernel
theorem xd_L_init_21 : decode xb_L_init 21 = .ok (.aload_n 0, 1) := by decide +kernel
theorem xd_L_init_22 : decode xb_L_init 22 = .ok (.getfield 11, 3) := by decide +kernel
theorem xd_L_init_25 : decode xb_L_init 25 = .ok (.iload_n 1, 1) := by decide +kernel
theorem xd_L_init_26 : decode xb_L_init 26 = .ok (.new 9, 3) := by decide +kernel
theorem xd_L_init_29 : decode xb_L_init 29 = .ok (.dup, 1) := by decide +kernel
theorem xd_L_init_30 : decode xb_L_init 30 = .ok (.invokespecial 17, 3) := by decide +kernel
theorem xd_L_init_33 : decode xb_L_init 33 = .ok (.aastore, 1) := by decide +kernel
theorem xd_L_init_34 : decode xb_L_init 34 = .ok (.iinc 1 1, 3) := by decide +kernel
theorem xd_L_init_37 : decode xb_L_init 37 = .ok (.goto (-22), 3) := by decide +kernel
theorem xd_L_init_40 : decode xb_L_init 40 = .ok (.return_, 1) := by decide +kernel
theorem xd_M_init_0 : decode xb_M_init 0 = .ok (.aload_n 0, 1) := by decide +kernel
theorem xd_M_init_1 : decode xb_M_init 1 = .ok (.invokespecial 3, 3) := by decide +kernel
theorem xd_M_init_4 : decode xb_M_init 4 = .ok (.aload_n 0, 1) := by decide +kernel
theorem xd_M_init_5 : decode xb_M_init 5 = .ok (.bipush 6, 2) := by decide +kernel
theorem xd_M_init_7 : decode xb_M_init 7 = .ok (.anewarray 9, 3) := by decide +kernel
theorem xd_M_init_10 : decode xb_M_init 10 = .ok (.putfield 11, 3) := by decide +kernel
theorem xd_M_init_13 : decode xb_M_init 13 = .ok (.aload_n 0, 1) := by decide +kernel
theorem xd_M_init_14 : decode xb_M_init 14 = .ok (.bipush 6, 2) := by decide +kernel
theorem xd_M_init_16 : decode xb_M_init 16 = .ok (.newarray .boolean, 2) := by decide +kernel
theorem xd_M_init_18 : decode xb_M_init 18 = .ok (.putfield 17, 3) := by decide +kernel
theorem xd_M_init_21 : decode xb_M_init 21 = .ok (.iconst 0, 1) := by decide +kernel
theorem xd_M_init_22 : decode xb_M_init 22 = .ok (.istore_n 1, 1) := by decide +kernel
theorem xd_M_init_23 : decode xb_M_init 23 = .ok (.iload_n 1, 1) := by decide +kernel
theorem xd_M_init_24 : decode xb_M_init 24 = .ok (.bipush 6, 2) := by decide +kernel
theorem xd_M_init_26 : decode xb_M_init 26 = .ok (.if_icmp .ge 22, 3) := by decide +kernel
theorem xd_M_init_29 : decode xb_M_init 29 = .ok (.aload_n 0, 1) := by decide +kernel
theorem xd_M_init_30 : decode xb_M_init 30 = .ok (.getfield 11, 3) := by decide +kernel
theorem xd_M_init_33 : decode xb_M_init 33 = .ok (.iload_n 1, 1) := by decide +kernel
theorem xd_M_init_34 : decode xb_M_init 34 = .ok (.new 9, 3) := by decide +kernel
theorem xd_M_init_37 : decode xb_M_init 37 = .ok (.dup, 1) := by decide +kernel
theorem xd_M_init_38 : decode xb_M_init 38 = .ok (.invokespecial 21, 3) := by decide +kernel
theorem xd_M_init_41 : decode xb_M_init 41 = .ok (.aastore, 1) := by decide +kernel
theorem xd_M_init_42 : decode xb_M_init 42 = .ok (.iinc 1 1, 3) := by decide +kernel
theorem xd_M_init_45 : decode xb_M_init 45 = .ok (.goto (-22), 3) := by decide +kernel
theorem xd_M_init_48 : decode xb_M_init 48 = .ok (.return_, 1) := by decide +kernel
theorem xd_N_init_0 : decode xb_N_init 0 = .ok (.aload_n 0, 1) := by decide +kernel
theorem xd_N_init_1 : decode xb_N_init 1 = .ok (.invokespecial 3, 3) := by decide +kernel
theorem xd_N_init_4 : decode xb_N_init 4 = .ok (.aload_n 0, 1) := by decide +kernel
theorem xd_N_init_5 : decode xb_N_init 5 = .ok (.bipush 6, 2) := by decide +kernel
theorem xd_N_init_7 : decode xb_N_init 7 = .ok (.anewarray 9, 3) := by decide +kernel
theorem xd_N_init_10 : decode xb_N_init 10 = .ok (.putfield 11, 3) := by decide +kernel
theorem xd_N_init_13 : decode xb_N_init 13 = .ok (.iconst 0, 1) := by decide +kernel
theorem xd_N_init_14 : decode xb_N_init 14 = .ok (.istore_n 1, 1) := by decide +kernel
theorem xd_N_init_15 : decode xb_N_init 15 = .ok (.iload_n 1, 1) := by decide +kernel
theorem xd_N_init_16 : decode xb_N_init 16 = .ok (.aload_n 0, 1) := by decide +kernel
theorem xd_N_init_17 : decode xb_N_init 17 = .ok (.getfield 11, 3) := by decide +kernel
theorem xd_N_init_20 : decode xb_N_init 20 = .ok (.arraylength, 1) := by decide +kernel
theorem xd_N_init_21 : decode xb_N_init 21 = .ok (.if_icmp .ge 22, 3) := by decide +kernel
theorem xd_N_init_24 : decode xb_N_init 24 = .ok (.aload_n 0, 1) := by decide +kernel
theorem xd_N_init_25 : decode xb_N_init 25 = .ok (.getfield 11, 3) := by decide +kernel
theorem xd_N_init_28 : decode xb_N_init 28 = .ok (.iload_n 1, 1) := by decide +kernel
theorem xd_N_init_29 : decode xb_N_init 29 = .ok (.new 9, 3) := by decide +kernel
theorem xd_N_init_32 : decode xb_N_init 32 = .ok (.dup, 1) := by decide +kernel
theorem xd_N_init_33 : decode xb_N_init 33 = .ok (.invokespecial 17, 3) := by decide +kernel
theorem xd_N_init_36 : decode xb_N_init 36 = .ok (.aastore, 1) := by decide +kernel
theorem xd_N_init_37 : decode xb_N_init 37 = .ok (.iinc 1 1, 3) := by decide +kernel
theorem xd_N_init_40 : decode xb_N_init 40 = .ok (.goto (-25), 3) := by decide +kernel
theorem xd_N_init_43 : decode xb_N_init 43 = .ok (.return_, 1) := by decide +kernel
theorem xd_S_init_0 : decode xb_S_init 0 = .ok (.aload_n 0, 1) := by decide +kernel
theorem xd_S_init_1 : decode xb_S_init 1 = .ok (.invokespecial 1, 3) := by decide +kernel
theorem xd_S_init_4 : decode xb_S_init 4 = .ok (.aload_n 0, 1) := by decide +kernel
theorem xd_S_init_5 : decode xb_S_init 5 = .ok (.new 7, 3) := by decide +kernel
theorem xd_S_init_8 : decode xb_S_init 8 = .ok (.dup, 1) := by decide +kernel
theorem xd_S_init_9 : decode xb_S_init 9 = .ok (.invokespecial 9, 3) := by decide +kernel
theorem xd_S_init_12 : decode xb_S_init 12 = .ok (.putfield 10, 3) := by decide +kernel
theorem xd_S_init_15 : decode xb_S_init 15 = .ok (.aload_n 0, 1) := by decide +kernel
theorem xd_S_init_16 : decode xb_S_init 16 = .ok (.new 16, 3) := by decide +kernel
theorem xd_S_init_19 : decode xb_S_init 19 = .ok (.dup, 1) := by decide +kernel
theorem xd_S_init_20 : decode xb_S_init 20 = .ok (.invokespecial 18, 3) := by decide +kernel
theorem xd_S_init_23 : decode xb_S_init 23 = .ok (.putfield 19, 3) := by decide +kernel
theorem xd_S_init_26 : decode xb_S_init 26 = .ok (.aload_n 0, 1) := by decide +kernel
theorem xd_S_init_27 : decode xb_S_init 27 = .ok (.new 23, 3) := by decide +kernel
theorem xd_S_init_30 : decode xb_S_init 30 = .ok (.dup, 1) := by decide +kernel
theorem xd_S_init_31 : decode xb_S_init 31 = .ok (.invokespecial 25, 3) := by decide +kernel
theorem xd_S_init_34 : decode xb_S_init 34 = .ok (.putfield 26, 3) := by decide +kernel
theorem xd_S_init_37 : decode xb_S_init 37 = .ok (.aload_n 0, 1) := by decide +kernel
theorem xd_S_init_38 : decode xb_S_init 38 = .ok (.new 30, 3) := by decide +kernel
theorem xd_S_init_41 : decode xb_S_init 41 = .ok (.dup, 1) := by decide +kernel
theorem xd_S_init_42 : decode xb_S_init 42 = .ok (.invokespecial 32, 3) := by decide +kernel
theorem xd_S_init_45 : decode xb_S_init 45 = .ok (.putfield 33, 3) := by decide +kernel
theorem xd_S_init_48 : decode xb_S_init 48 = .ok (.aload_n 0, 1) := by decide +kernel
theorem xd_S_init_49 : decode xb_S_init 49 = .ok (.iconst (-1), 1) := by decide +kernel
theorem xd_S_init_50 : decode xb_S_init 50 = .ok (.putfield 37, 3) := by decide +kernel
theorem xd_S_init_53 : decode xb_S_init 53 = .ok (.aload_n 0, 1) := by decide +kernel
theorem xd_S_init_54 : decode xb_S_init 54 = .ok (.iconst 0, 1) := by decide +kernel
theorem xd_S_init_55 : decode xb_S_init 55 = .ok (.putfield 41, 3) := by decide +kernel
theorem xd_S_init_58 : decode xb_S_init 58 = .ok (.return_, 1) := by decide +kernel
theorem xd_R_init_0 : decode xb_R_init 0 = .ok (.aload_n 0, 1) := by decide +kernel
theorem xd_R_init_1 : decode xb_R_init 1 = .ok (.invokespecial 1, 3) := by decide +kernel
theorem xd_R_init_4 : decode xb_R_init 4 = .ok (.aload_n 0, 1) := by decide +kernel
theorem xd_R_init_5 : decode xb_R_init 5 = .ok (.bipush 13, 2) := by decide +kernel
theorem xd_R_init_7 : decode xb_R_init 7 = .ok (.newarray .int, 2) := by decide +kernel
theorem xd_R_init_9 : decode xb_R_init 9 = .ok (.putfield 7, 3) := by decide +kernel
theorem xd_R_init_12 : decode xb_R_init 12 = .ok (.aload_n 0, 1) := by decide +kernel
theorem xd_R_init_13 : decode xb_R_init 13 = .ok (.bipush 13, 2) := by decide +kernel
theorem xd_R_init_15 : decode xb_R_init 15 = .ok (.newarray .int, 2) := by decide +kernel
theorem xd_R_init_17 : decode xb_R_init 17 = .ok (.putfield 13, 3) := by decide +kernel
theorem xd_R_init_20 : decode xb_R_init 20 = .ok (.aload_n 0, 1) := by decide +kernel
theorem xd_R_init_21 : decode xb_R_init 21 = .ok (.bipush 13, 2) := by decide +kernel
theorem xd_R_init_23 : decode xb_R_init 23 = .ok (.newarray .int, 2) := by decide +kernel
theorem xd_R_init_25 : decode xb_R_init 25 = .ok (.putfield 16, 3) := by decide +kernel
theorem xd_R_init_28 : decode xb_R_init 28 = .ok (.aload_n 0, 1) := by decide +kernel
theorem xd_R_init_29 : decode xb_R_init 29 = .ok (.bipush 39, 2) := by decide +kernel
theorem xd_R_init_31 : decode xb_R_init 31 = .ok (.newarray .int, 2) := by decide +kernel
theorem xd_R_init_33 : decode xb_R_init 33 = .ok (.putfield 19, 3) := by decide +kernel
theorem xd_R_init_36 : decode xb_R_init 36 = .ok (.aload_n 0, 1) := by decide +kernel
theorem xd_R_init_37 : decode xb_R_init 37 = .ok (.bipush 39, 2) := by decide +kernel
theorem xd_R_init_39 : decode xb_R_init 39 = .ok (.newarray .int, 2) := by decide +kernel
theorem xd_R_init_41 : decode xb_R_init 41 = .ok (.putfield 22, 3) := by decide +kernel
theorem xd_R_init_44 : decode xb_R_init 44 = .ok (.aload_n 0, 1) := by decide +kernel
theorem xd_R_init_45 : decode xb_R_init 45 = .ok (.sipush 546, 3) := by decide +kernel
theorem xd_R_init_48 : decode xb_R_init 48 = .ok (.newarray .int, 2) := by decide +kernel
theorem xd_R_init_50 : decode xb_R_init 50 = .ok (.putfield 25, 3) := by decide +kernel
theorem xd_R_init_53 : decode xb_R_init 53 = .ok (.aload_n 0, 1) := by decide +kernel
theorem xd_R_init_54 : decode xb_R_init 54 = .ok (.sipush 546, 3) := by decide +kernel
theorem xd_R_init_57 : decode xb_R_init 57 = .ok (.newarray .int, 2) := by decide +kernel
theorem xd_R_init_59 : decode xb_R_init 59 = .ok (.putfield 28, 3) := by decide +kernel
theorem xd_R_init_62 : decode xb_R_init 62 = .ok (.aload_n 0, 1) := by decide +kernel
theorem xd_R_init_63 : decode xb_R_init 63 = .ok (.sipush 546, 3) := by decide +kernel
theorem xd_R_init_66 : decode xb_R_init 66 = .ok (.newarray .int, 2) := by decide +kernel
theorem xd_R_init_68 : decode xb_R_init 68 = .ok (.putfield 31, 3) := by decide +kernel
theorem xd_R_init_71 : decode xb_R_init 71 = .ok (.aload_n 0, 1) := by decide +kernel
theorem xd_R_init_72 : decode xb_R_init 72 = .ok (.bipush 13, 2) := by decide +kernel
theorem xd_R_init_74 : decode xb_R_init 74 = .ok (.newarray .int, 2) := by decide +kernel
theorem xd_R_init_76 : decode xb_R_init 76 = .ok (.putfield 34, 3) := by decide +kernel
theorem xd_R_init_79 : decode xb_R_init 79 = .ok (.aload_n 0, 1) := by decide +kernel
theorem xd_R_init_80 : decode xb_R_init 80 = .ok (.bipush 65, 2) := by decide +kernel
theorem xd_R_init_82 : decode xb_R_init 82 = .ok (.newarray .int, 2) := by decide +kernel
theorem xd_R_init_84 : decode xb_R_init 84 = .ok (.putfield 37, 3) := by decide +kernel
theorem xd_R_init_87 : decode xb_R_init 87 = .ok (.aload_n 0, 1) := by decide +kernel
theorem xd_R_init_88 : decode xb_R_init 88 = .ok (.bipush 65, 2) := by decide +kernel
theorem xd_R_init_90 : decode xb_R_init 90 = .ok (.newarray .int, 2) := by decide +kernel
theorem xd_R_init_92 : decode xb_R_init 92 = .ok (.putfield 40, 3) := by decide +kernel
theorem xd_R_init_95 : decode xb_R_init 95 = .ok (.aload_n 0, 1) := by decide +kernel
theorem xd_R_init_96 : decode xb_R_init 96 = .ok (.bipush 18, 2) := by decide +kernel
theorem xd_R_init_98 : decode xb_R_init 98 = .ok (.newarray .int, 2) := by decide +kernel
theorem xd_R_init_100 : decode xb_R_init 100 = .ok (.putfield 43, 3) := by decide +kernel
theorem xd_R_init_103 : decode xb_R_init 103 = .ok (.aload_n 0, 1) := by decide +kernel
theorem xd_R_init_104 : decode xb_R_init 104 = .ok (.iconst (-1), 1) := by decide +kernel
theorem xd_R_init_105 : decode xb_R_init 105 = .ok (.putfield 46, 3) := by decide +kernel
theorem xd_R_init_108 : decode xb_R_init 108 = .ok (.aload_n 0, 1) := by decide +kernel
theorem xd_R_init_109 : decode xb_R_init 109 = .ok (.bipush 8, 2) := by decide +kernel
theorem xd_R_init_111 : decode xb_R_init 111 = .ok (.newarray .int, 2) := by decide +kernel
theorem xd_R_init_113 : decode xb_R_init 113 = .ok (.putfield 50, 3) := by decide +kernel
theorem xd_R_init_116 : decode xb_R_init 116 = .ok (.aload_n 0, 1) := by decide +kernel
theorem xd_R_init_117 : decode xb_R_init 117 = .ok (.bipush 8, 2) := by decide +kernel
theorem xd_R_init_119 : decode xb_R_init 119 = .ok (.newarray .int, 2) := by decide +kernel
theorem xd_R_init_121 : decode xb_R_init 121 = .ok (.putfield 53, 3) := by decide +kernel
theorem xd_R_init_124 : decode xb_R_init 124 = .ok (.aload_n 0, 1) := by decide +kernel
theorem xd_R_init_125 : decode xb_R_init 125 = .ok (.bipush 16, 2) := by decide +kernel
theorem xd_R_init_127 : decode xb_R_init 127 = .ok (.newarray .int, 2) := by decide +kernel
theorem xd_R_init_129 : decode xb_R_init 129 = .ok (.putfield 56, 3) := by decide +kernel
theorem xd_R_init_132 : decode xb_R_init 132 = .ok (.aload_n 0, 1) := by decide +kernel
theorem xd_R_init_133 : decode xb_R_init 133 = .ok (.sipush 300, 3) := by decide +kernel
theorem xd_R_init_136 : decode xb_R_init 136 = .ok (.newarray .int, 2) := by decide +kernel
theorem xd_R_init_138 : decode xb_R_init 138 = .ok (.putfield 59, 3) := by decide +kernel
theorem xd_R_init_141 : decode xb_R_init 141 = .ok (.aload_n 0, 1) := by decide +kernel
theorem xd_R_init_142 : decode xb_R_init 142 = .ok (.sipush 300, 3) := by decide +kernel
theorem xd_R_init_145 : decode xb_R_init 145 = .ok (.newarray .int, 2) := by decide +kernel
theorem xd_R_init_147 : decode xb_R_init 147 = .ok (.putfield 62, 3) := by decide +kernel
theorem xd_R_init_150 : decode xb_R_init 150 = .ok (.aload_n 0, 1) := by decide +kernel
theorem xd_R_init_151 : decode xb_R_init 151 = .ok (.sipush 300, 3) := by decide +kernel
theorem xd_R_init_154 : decode xb_R_init 154 = .ok (.newarray .int, 2) := by decide +kernel
theorem xd_R_init_156 : decode xb_R_init 156 = .ok (.putfield 65, 3) := by decide +kernel
theorem xd_R_init_159 : decode xb_R_init 159 = .ok (.aload_n 0, 1) := by decide +kernel
theorem xd_R_init_160 : decode xb_R_init 160 = .ok (.sipush 300, 3) := by decide +kernel
theorem xd_R_init_163 : decode xb_R_init 163 = .ok (.newarray .int, 2) := by decide +kernel
theorem xd_R_init_165 : decode xb_R_init 165 = .ok (.putfield 68, 3) := by decide +kernel
theorem xd_R_init_168 : decode xb_R_init 168 = .ok (.aload_n 0, 1) := by decide +kernel
theorem xd_R_init_169 : decode xb_R_init 169 = .ok (.bipush 6, 2) := by decide +kernel
theorem xd_R_init_171 : decode xb_R_init 171 = .ok (.newarray .int, 2) := by decide +kernel
theorem xd_R_init_173 : decode xb_R_init 173 = .ok (.putfield 71, 3) := by decide +kernel
theorem xd_R_init_176 : decode xb_R_init 176 = .ok (.aload_n 0, 1) := by decide +kernel
theorem xd_R_init_177 : decode xb_R_init 177 = .ok (.bipush 6, 2) := by decide +kernel
theorem xd_R_init_179 : decode xb_R_init 179 = .ok (.newarray .int, 2) := by decide +kernel
theorem xd_R_init_181 : decode xb_R_init 181 = .ok (.putfield 74, 3) := by decide +kernel
theorem xd_R_init_184 : decode xb_R_init 184 = .ok (.aload_n 0, 1) := by decide +kernel
theorem xd_R_init_185 : decode xb_R_init 185 = .ok (.bipush 6, 2) := by decide +kernel
theorem xd_R_init_187 : decode xb_R_init 187 = .ok (.newarray .int, 2) := by decide +kernel
theorem xd_R_init_189 : decode xb_R_init 189 = .ok (.putfield 77, 3) := by decide +kernel
theorem xd_R_init_192 : decode xb_R_init 192 = .ok (.aload_n 0, 1) := by decide +kernel
theorem xd_R_init_193 : decode xb_R_init 193 = .ok (.bipush 6, 2) := by decide +kernel
theorem xd_R_init_195 : decode xb_R_init 195 = .ok (.newarray .int, 2) := by decide +kernel
theorem xd_R_init_197 : decode xb_R_init 197 = .ok (.putfield 80, 3) := by decide +kernel
theorem xd_R_init_200 : decode xb_R_init 200 = .ok (.return_, 1) := by decide +kernel
set_option maxHeartbeats 4000000 in
set_option maxRecDepth 100000 in
theorem xn_F_init {l : Launch} {D : va_G} {ids : Nat → ClassId} {ps : Nat} (b : Nat) (hb : kd_k b = 14) (h : Nat) : aw_N l D (ty_z ids) (zs_T ps) xy_F_init (xw_F_init :: gw_l) (rm_N 1 0 0) 0 0 h (.inr (1, [.int 0, .int 0, .int 0, .int 0, .int 0])) ((fun u => cr_w ids b 1 u)) (fun u => u b = h) := by
  refine aw_introN (cc := xb_F_init) (n := 1) "ModuleShelf$Frame" rfl rfl (by decide) rfl (by decide) ?_
  intro κ C hI
  refine aw_aload_n C 0 xd_F_init_0 rfl rfl ?_
  refine aw_obj C (List.mem_cons_of_mem _ ml_F_1) (List.mem_cons_of_mem _ wo_inst) (List.mem_cons_of_mem _ wo_code) (by decide) (by decide) xd_F_init_1 ?_
  exact aw_vretN C (fun _ => h) rfl (by show [(h, ly_k _ ids b (fun _ => 0))] = _; rw [ly_F hb]) xd_F_init_4

set_option maxHeartbeats 4000000 in
set_option maxRecDepth 100000 in
theorem xn_C_init {l : Launch} {D : va_G} {ids : Nat → ClassId} {ps : Nat} (b : Nat) (hb : kd_k b = 1) (h : Nat) : aw_N l D (ty_z ids) (zs_T ps) xy_C_init (xw_C_init :: gw_l) (rm_N 1 5 132) 5 132 h (.inr (0, [.int 0, .int 0, .null, .null, .null, .null, .null])) ((fun u => cr_w ids b 6 u)) (fun u => u b = h) := by
  refine aw_introN (cc := xb_C_init) (n := 1) "ModuleShelf$Code" rfl rfl (by decide) rfl (by decide) ?_
  intro κ C hI
  refine aw_aload_n C 0 xd_C_init_0 rfl rfl ?_
  refine aw_obj C (List.mem_cons_of_mem _ ml_C_3) (List.mem_cons_of_mem _ wo_inst) (List.mem_cons_of_mem _ wo_code) (by decide) (by decide) xd_C_init_1 ?_
  refine aw_aload_n C 0 xd_C_init_4 rfl rfl ?_
  refine aw_iconst (v := (3 : Int32)) C xd_C_init_5 (by decide) ?_
  refine aw_newa (atype := .int) C (List.mem_cons_of_mem _ wa_int) rfl 0 rfl (a0 := (3, .inl (fun _ => 0))) (fun _ => rfl) (by decide) (N' := 3) rfl (by decide) (Nat.le_of_ble_eq_true rfl) (Nat.le_of_ble_eq_true rfl) xd_C_init_6 (fun q1 => ?_)
  refine aw_putFG C hI 0 rfl rfl (fun w h => List.mem_cons_of_mem _ (xi_C w h)) xk_C xo_C xn_C 2 (by decide) (List.mem_cons_of_mem _ fl_C_9) rfl rfl (ty := .array .int) (by decide +kernel) rfl rfl (Nat.le_of_ble_eq_true rfl) (w' := [(h, .inr (0, [.int 0, .int 0, .ref q1, .null, .null, .null, .null])), (q1, .inl (ids 0, 3, .inl (fun _ => 0)))]) rfl xd_C_init_8 ?_
  refine aw_aload_n C 0 xd_C_init_11 rfl rfl ?_
  refine aw_iconst (v := (3 : Int32)) C xd_C_init_12 (by decide) ?_
  refine aw_newa (atype := .int) C (List.mem_cons_of_mem _ wa_int) rfl 0 rfl (a0 := (3, .inl (fun _ => 0))) (fun _ => rfl) (by decide) (N' := 3) rfl (by decide) (Nat.le_of_ble_eq_true rfl) (Nat.le_of_ble_eq_true rfl) xd_C_init_13 (fun q2 => ?_)
  refine aw_putFG C hI 0 rfl rfl (fun w h => List.mem_cons_of_mem _ (xi_C w h)) xk_C xo_C xn_C 3 (by decide) (List.mem_cons_of_mem _ fl_C_15) rfl rfl (ty := .array .int) (by decide +kernel) rfl rfl (Nat.le_of_ble_eq_true rfl) (w' := [(h, .inr (0, [.int 0, .int 0, .ref q1, .ref q2, .null, .null, .null])), (q1, .inl (ids 0, 3, .inl (fun _ => 0))), (q2, .inl (ids 0, 3, .inl (fun _ => 0)))]) rfl xd_C_init_15 ?_
  refine aw_aload_n C 0 xd_C_init_18 rfl rfl ?_
  refine aw_bipush (v := (42 : Int32)) C xd_C_init_19 (by decide) ?_
  refine aw_newa (atype := .int) C (List.mem_cons_of_mem _ wa_int) rfl 0 rfl (a0 := (42, .inl (fun _ => 0))) (fun _ => rfl) (by decide) (N' := 42) rfl (by decide) (Nat.le_of_ble_eq_true rfl) (Nat.le_of_ble_eq_true rfl) xd_C_init_21 (fun q3 => ?_)
  refine aw_putFG C hI 0 rfl rfl (fun w h => List.mem_cons_of_mem _ (xi_C w h)) xk_C xo_C xn_C 4 (by decide) (List.mem_cons_of_mem _ fl_C_18) rfl rfl (ty := .array .int) (by decide +kernel) rfl rfl (Nat.le_of_ble_eq_true rfl) (w' := [(h, .inr (0, [.int 0, .int 0, .ref q1, .ref q2, .ref q3, .null, .null])), (q1, .inl (ids 0, 3, .inl (fun _ => 0))), (q2, .inl (ids 0, 3, .inl (fun _ => 0))), (q3, .inl (ids 0, 42, .inl (fun _ => 0)))]) rfl xd_C_init_23 ?_
  refine aw_aload_n C 0 xd_C_init_26 rfl rfl ?_
  refine aw_bipush (v := (42 : Int32)) C xd_C_init_27 (by decide) ?_
  refine aw_newa (atype := .int) C (List.mem_cons_of_mem _ wa_int) rfl 0 rfl (a0 := (42, .inl (fun _ => 0))) (fun _ => rfl) (by decide) (N' := 42) rfl (by decide) (Nat.le_of_ble_eq_true rfl) (Nat.le_of_ble_eq_true rfl) xd_C_init_29 (fun q4 => ?_)
  refine aw_putFG C hI 0 rfl rfl (fun w h => List.mem_cons_of_mem _ (xi_C w h)) xk_C xo_C xn_C 5 (by decide) (List.mem_cons_of_mem _ fl_C_21) rfl rfl (ty := .array .int) (by decide +kernel) rfl rfl (Nat.le_of_ble_eq_true rfl) (w' := [(h, .inr (0, [.int 0, .int 0, .ref q1, .ref q2, .ref q3, .ref q4, .null])), (q1, .inl (ids 0, 3, .inl (fun _ => 0))), (q2, .inl (ids 0, 3, .inl (fun _ => 0))), (q3, .inl (ids 0, 42, .inl (fun _ => 0))), (q4, .inl (ids 0, 42, .inl (fun _ => 0)))]) rfl xd_C_init_31 ?_
  refine aw_aload_n C 0 xd_C_init_34 rfl rfl ?_
  refine aw_bipush (v := (42 : Int32)) C xd_C_init_35 (by decide) ?_
  refine aw_newa (atype := .int) C (List.mem_cons_of_mem _ wa_int) rfl 0 rfl (a0 := (42, .inl (fun _ => 0))) (fun _ => rfl) (by decide) (N' := 42) rfl (by decide) (Nat.le_of_ble_eq_true rfl) (Nat.le_of_ble_eq_true rfl) xd_C_init_37 (fun q5 => ?_)
  refine aw_putFG C hI 0 rfl rfl (fun w h => List.mem_cons_of_mem _ (xi_C w h)) xk_C xo_C xn_C 6 (by decide) (List.mem_cons_of_mem _ fl_C_24) rfl rfl (ty := .array .int) (by decide +kernel) rfl rfl (Nat.le_of_ble_eq_true rfl) (w' := [(h, .inr (0, [.int 0, .int 0, .ref q1, .ref q2, .ref q3, .ref q4, .ref q5])), (q1, .inl (ids 0, 3, .inl (fun _ => 0))), (q2, .inl (ids 0, 3, .inl (fun _ => 0))), (q3, .inl (ids 0, 42, .inl (fun _ => 0))), (q4, .inl (ids 0, 42, .inl (fun _ => 0))), (q5, .inl (ids 0, 42, .inl (fun _ => 0)))]) rfl xd_C_init_39 ?_
  have e : ∀ j, (fun k => [h, q1, q2, q3, q4, q5].getD (k - b) 0) (b + j) = [h, q1, q2, q3, q4, q5].getD j 0 := fun j => by show List.getD _ (b + j - b) 0 = _; rw [Nat.add_sub_cancel_left]
  refine aw_vretN C (fun k => [h, q1, q2, q3, q4, q5].getD (k - b) 0) (e 0) ?_ xd_C_init_42
  rw [cr_C hb]; simp only [Nat.add_sub_cancel_left, Nat.sub_self]; rfl

set_option maxHeartbeats 4000000 in
set_option maxRecDepth 100000 in
theorem xn_U_init {l : Launch} {D : va_G} {ids : Nat → ClassId} {ps : Nat} (b : Nat) (hb : kd_k b = 6) (h : Nat) : aw_N l D (ty_z ids) (zs_T ps) xy_U_init (xw_U_init :: gw_l) (rm_N 2 8 151) 8 151 h (.inr (6, [.int 0, .int 0, .int 0, .null, .null, .null])) ((fun u => cr_w ids b 9 u)) (fun u => u b = h) := by
  refine aw_introN (cc := xb_U_init) (n := 1) "ModuleShelf$Unit" rfl rfl (by decide) rfl (by decide) ?_
  intro κ C hI
  refine aw_aload_n C 0 xd_U_init_0 rfl rfl ?_
  refine aw_obj C (List.mem_cons_of_mem _ ml_U_3) (List.mem_cons_of_mem _ wo_inst) (List.mem_cons_of_mem _ wo_code) (by decide) (by decide) xd_U_init_1 ?_
  refine aw_aload_n C 0 xd_U_init_4 rfl rfl ?_
  refine aw_bipush (v := (6 : Int32)) C xd_U_init_5 (by decide) ?_
  refine aw_newa (atype := .int) C (List.mem_cons_of_mem _ wa_int) rfl 0 rfl (a0 := (6, .inl (fun _ => 0))) (fun _ => rfl) (by decide) (N' := 6) rfl (by decide) (Nat.le_of_ble_eq_true rfl) (Nat.le_of_ble_eq_true rfl) xd_U_init_7 (fun q1 => ?_)
  refine aw_putFG C hI 0 rfl rfl (fun w h => List.mem_cons_of_mem _ (xi_U w h)) xk_U xo_U xn_U 3 (by decide) (List.mem_cons_of_mem _ fl_U_9) rfl rfl (ty := .array .int) (by decide +kernel) rfl rfl (Nat.le_of_ble_eq_true rfl) (w' := [(h, .inr (6, [.int 0, .int 0, .int 0, .ref q1, .null, .null])), (q1, .inl (ids 0, 6, .inl (fun _ => 0)))]) rfl xd_U_init_9 ?_
  refine aw_aload_n C 0 xd_U_init_12 rfl rfl ?_
  refine aw_bipush (v := (6 : Int32)) C xd_U_init_13 (by decide) ?_
  refine aw_newa (atype := .int) C (List.mem_cons_of_mem _ wa_int) rfl 0 rfl (a0 := (6, .inl (fun _ => 0))) (fun _ => rfl) (by decide) (N' := 6) rfl (by decide) (Nat.le_of_ble_eq_true rfl) (Nat.le_of_ble_eq_true rfl) xd_U_init_15 (fun q2 => ?_)
  refine aw_putFG C hI 0 rfl rfl (fun w h => List.mem_cons_of_mem _ (xi_U w h)) xk_U xo_U xn_U 4 (by decide) (List.mem_cons_of_mem _ fl_U_15) rfl rfl (ty := .array .int) (by decide +kernel) rfl rfl (Nat.le_of_ble_eq_true rfl) (w' := [(h, .inr (6, [.int 0, .int 0, .int 0, .ref q1, .ref q2, .null])), (q1, .inl (ids 0, 6, .inl (fun _ => 0))), (q2, .inl (ids 0, 6, .inl (fun _ => 0)))]) rfl xd_U_init_17 ?_
  refine aw_aload_n C 0 xd_U_init_20 rfl rfl ?_
  refine aw_new C (ci := 0) (fs := [.int 0, .int 0, .null, .null, .null, .null, .null]) (fun w h => List.mem_cons_of_mem _ (xi_C w h)) xk_C xo_C (List.mem_cons_of_mem _ cl_U_18) (List.mem_cons_of_mem _ ci_C) (List.mem_cons_of_mem _ wi_C) rfl (fun j hj => by rcases (show j = 0 ∨ j = 1 ∨ j = 2 ∨ j = 3 ∨ j = 4 ∨ j = 5 ∨ j = 6 by omega) with rfl | rfl | rfl | rfl | rfl | rfl | rfl <;> rfl) (Nat.le_of_ble_eq_true rfl) (Nat.le_of_ble_eq_true rfl) xd_U_init_21 (fun q3 => ?_)
  refine aw_dup C xd_U_init_24 rfl ?_
  refine aw_callIN C (xn_C_init (b + 3) (kf_U_code hb) q3) rfl (gw_sub (gw_C xg_C_init)) (List.mem_cons_of_mem _ wi_C) (List.mem_of_getElem? (i := 7) rfl) (List.mem_cons_of_mem _ im_C_init) rfl na_C_init (rn_lt (by decide) (by decide)) ⟨Nat.le_of_ble_eq_true rfl, Nat.le_of_ble_eq_true rfl⟩ (Nat.le_of_ble_eq_true rfl) xd_U_init_25 (fun v hv => ?_)
  refine aw_putFG C hI 0 rfl rfl (fun w h => List.mem_cons_of_mem _ (xi_U w h)) xk_U xo_U xn_U 5 (by decide) (List.mem_cons_of_mem _ fl_U_21) rfl rfl (ty := .object "ModuleShelf$Code") (by decide +kernel) rfl rfl (Nat.le_of_ble_eq_true rfl) (w' := [(h, .inr (6, [.int 0, .int 0, .int 0, .ref q1, .ref q2, .ref q3])), (q1, .inl (ids 0, 6, .inl (fun _ => 0))), (q2, .inl (ids 0, 6, .inl (fun _ => 0)))] ++ cr_w ids (b + 3) 6 v) rfl xd_U_init_28 ?_
  refine aw_vretN C (fun k => if k = b then h else if k = b + 1 then q1 else if k = b + 2 then q2 else v k) (by simp) ?_ xd_U_init_31
  rw [cr_U hb, cg_C (v := v) (kf_U_code hb) (fun j h1 h2 => by rw [if_neg (by omega), if_neg (by omega), if_neg (by omega)])]
  simp [hv]

set_option maxHeartbeats 4000000 in
set_option maxRecDepth 100000 in
theorem xn_I_init {l : Launch} {D : va_G} {ids : Nat → ClassId} {ps : Nat} (b : Nat) (hb : kd_k b = 11) (h : Nat) : aw_N l D (ty_z ids) (zs_T ps) xy_I_init (xw_I_init :: gw_l) (rm_N 3 10 160) 10 160 h (.inr (2, [.null, .null])) ((fun u => cr_w ids b 11 u)) (fun u => u b = h) := by
  refine aw_introN (cc := xb_I_init) (n := 1) "ModuleShelf$Image" rfl rfl (by decide) rfl (by decide) ?_
  intro κ C hI
  refine aw_aload_n C 0 xd_I_init_0 rfl rfl ?_
  refine aw_obj C (List.mem_cons_of_mem _ ml_I_3) (List.mem_cons_of_mem _ wo_inst) (List.mem_cons_of_mem _ wo_code) (by decide) (by decide) xd_I_init_1 ?_
  refine aw_aload_n C 0 xd_I_init_4 rfl rfl ?_
  refine aw_new C (ci := 6) (fs := [.int 0, .int 0, .int 0, .null, .null, .null]) (fun w h => List.mem_cons_of_mem _ (xi_U w h)) xk_U xo_U (List.mem_cons_of_mem _ cl_I_9) (List.mem_cons_of_mem _ ci_U) (List.mem_cons_of_mem _ wi_U) rfl (fun j hj => by rcases (show j = 0 ∨ j = 1 ∨ j = 2 ∨ j = 3 ∨ j = 4 ∨ j = 5 by omega) with rfl | rfl | rfl | rfl | rfl | rfl <;> rfl) (Nat.le_of_ble_eq_true rfl) (Nat.le_of_ble_eq_true rfl) xd_I_init_5 (fun q1 => ?_)
  refine aw_dup C xd_I_init_8 rfl ?_
  refine aw_callIN C (xn_U_init (b + 1) (kf_I_unit hb) q1) rfl (gw_sub (gw_C xg_U_init)) (List.mem_cons_of_mem _ wi_U) (List.mem_of_getElem? (i := 1) rfl) (List.mem_cons_of_mem _ im_U_init) rfl na_U_init (rn_lt (by decide) (by decide)) ⟨Nat.le_of_ble_eq_true rfl, Nat.le_of_ble_eq_true rfl⟩ (Nat.le_of_ble_eq_true rfl) xd_I_init_9 (fun v hv => ?_)
  refine aw_putFG C hI 0 rfl rfl (fun w h => List.mem_cons_of_mem _ (xi_I w h)) xk_I xo_I xn_I 0 (by decide) (List.mem_cons_of_mem _ fl_I_12) rfl rfl (ty := .object "ModuleShelf$Unit") (by decide +kernel) rfl rfl (Nat.le_of_ble_eq_true rfl) (w' := [(h, .inr (2, [.ref q1, .null]))] ++ cr_w ids (b + 1) 9 v) rfl xd_I_init_12 ?_
  refine aw_aload_n C 0 xd_I_init_15 rfl rfl ?_
  refine aw_iconst (v := (3 : Int32)) C xd_I_init_16 (by decide) ?_
  refine aw_newa (atype := .int) C (List.mem_cons_of_mem _ wa_int) rfl 0 rfl (a0 := (3, .inl (fun _ => 0))) (fun _ => rfl) (by decide) (N' := 3) rfl (by decide) (Nat.le_of_ble_eq_true rfl) (Nat.le_of_ble_eq_true rfl) xd_I_init_17 (fun q2 => ?_)
  refine aw_putFG C hI 0 rfl rfl (fun w h => List.mem_cons_of_mem _ (xi_I w h)) xk_I xo_I xn_I 1 (by decide) (List.mem_cons_of_mem _ fl_I_18) rfl rfl (ty := .array .int) (by decide +kernel) rfl rfl (Nat.le_of_ble_eq_true rfl) (w' := [(h, .inr (2, [.ref q1, .ref q2]))] ++ cr_w ids (b + 1) 9 v ++ [(q2, .inl (ids 0, 3, .inl (fun _ => 0)))]) rfl xd_I_init_19 ?_
  refine aw_vretN C (fun k => if k = b then h else if k = b + 10 then q2 else v k) (by simp) ?_ xd_I_init_22
  rw [cr_I hb, cg_U (v := v) (kf_I_unit hb) (fun j h1 h2 => by rw [if_neg (by omega), if_neg (by omega)])]
  simp [hv]

set_option maxHeartbeats 4000000 in
set_option maxRecDepth 100000 in
theorem xn_L_init {l : Launch} {D : va_G} {ids : Nat → ClassId} {ps : Nat} (h : Nat) : aw_N l D (ty_z ids) (zs_T ps) xy_L_init (xw_L_init :: gw_l) (rm_N 3 55 948) 55 948 h (.inr (3, [.null, .int 0, .int 0])) ((fun u => cr_w ids 7 56 u)) (fun u => u 7 = h) := by
  refine aw_introN (cc := xb_L_init) (n := 2) "ModuleShelf$Library" rfl rfl (by decide) rfl (by decide) ?_
  intro κ C hI
  refine aw_aload_n C 0 xd_L_init_0 rfl rfl ?_
  refine aw_obj C (List.mem_cons_of_mem _ ml_L_3) (List.mem_cons_of_mem _ wo_inst) (List.mem_cons_of_mem _ wo_code) (by decide) (by decide) xd_L_init_1 ?_
  refine aw_aload_n C 0 xd_L_init_4 rfl rfl ?_
  refine aw_bipush (v := (6 : Int32)) C xd_L_init_5 (by decide) ?_
  refine aw_newq C (List.mem_cons_of_mem _ cl_L_9) (List.mem_of_getElem? (i := 10) rfl) 2 rfl (by decide) (N' := 6) rfl (by decide) (Nat.le_of_ble_eq_true rfl) (Nat.le_of_ble_eq_true rfl) xd_L_init_7 (fun q1 => ?_)
  refine aw_putFG C hI 0 rfl rfl (fun w h => List.mem_cons_of_mem _ (xi_L w h)) xk_L xo_L xn_L 0 (by decide) (List.mem_cons_of_mem _ fl_L_11) rfl rfl (ty := .array (.object "ModuleShelf$Unit")) (by decide +kernel) rfl rfl (Nat.le_of_ble_eq_true rfl) (w' := [(h, .inr (3, [.ref q1, .int 0, .int 0])), (q1, .inl (ids 2, 6, .inr (.inr (.inr (.inr (fun _ => none))))))]) rfl xd_L_init_10 ?_
  refine aw_iconst (v := (0 : Int32)) C xd_L_init_13 (by decide) ?_
  refine aw_istore_n (L' := [(1, .int (0 : Int32)), (0, .ref h)]) C xd_L_init_14 rfl (by decide) rfl ?_
  refine aw_iload_n C 0 xd_L_init_15 rfl rfl ?_
  refine aw_bipush (v := (6 : Int32)) C xd_L_init_16 (by decide) ?_
  refine aw_icmp_ge (tgt := 40) C xd_L_init_18 (by decide) (fun c_0 => absurd c_0 (by decide)) (fun _ => ?_)
  refine aw_aload_n C 1 xd_L_init_21 rfl rfl ?_
  refine aw_getG C 0 rfl rfl (fun w h => List.mem_cons_of_mem _ (xi_L w h)) 0 (by decide) rfl (List.mem_cons_of_mem _ fl_L_11) xd_L_init_22 ?_
  refine aw_iload_n C 0 xd_L_init_25 rfl rfl ?_
  refine aw_new C (ci := 6) (fs := [.int 0, .int 0, .int 0, .null, .null, .null]) (fun w h => List.mem_cons_of_mem _ (xi_U w h)) xk_U xo_U (List.mem_cons_of_mem _ cl_L_9) (List.mem_cons_of_mem _ ci_U) (List.mem_cons_of_mem _ wi_U) rfl (fun j hj => by rcases (show j = 0 ∨ j = 1 ∨ j = 2 ∨ j = 3 ∨ j = 4 ∨ j = 5 by omega) with rfl | rfl | rfl | rfl | rfl | rfl <;> rfl) (Nat.le_of_ble_eq_true rfl) (Nat.le_of_ble_eq_true rfl) xd_L_init_26 (fun z => ?_)
  refine aw_dup C xd_L_init_29 rfl ?_
  refine aw_callIN C (xn_U_init 9 rfl z) rfl (gw_sub (gw_C xg_U_init)) (List.mem_cons_of_mem _ wi_U) (List.mem_of_getElem? (i := 2) rfl) (List.mem_cons_of_mem _ im_U_init) rfl na_U_init (rn_lt (by decide) (by decide)) ⟨Nat.le_of_ble_eq_true rfl, Nat.le_of_ble_eq_true rfl⟩ (Nat.le_of_ble_eq_true rfl) xd_L_init_30 (fun v0 hz => ?_)
  subst hz
  refine aw_astG C 1 2 2 rfl rfl rfl rfl (aw_in_ok rfl) (w' := [(h, .inr (3, [.ref q1, .int 0, .int 0])), (q1, .inl (ids 2, 6, .inr (.inr (.inr (.inr (va_up (fun _ => none) 0 (some (v0 9))))))))] ++ cr_w ids 9 9 v0) rfl xd_L_init_33 ?_
  refine aw_iinc (j := 0) (v := (1 : Int32)) (L' := [(1, .int (1 : Int32)), (0, .ref h)]) C xd_L_init_34 rfl (by decide) (by decide) rfl ?_
  refine aw_goto (tgt := 15) C xd_L_init_37 (by decide) ?_
  refine aw_iload_n C 0 xd_L_init_15 rfl rfl ?_
  refine aw_bipush (v := (6 : Int32)) C xd_L_init_16 (by decide) ?_
  refine aw_icmp_ge (tgt := 40) C xd_L_init_18 (by decide) (fun c_0 => absurd c_0 (by decide)) (fun _ => ?_)
  refine aw_aload_n C 1 xd_L_init_21 rfl rfl ?_
  refine aw_getG C 0 rfl rfl (fun w h => List.mem_cons_of_mem _ (xi_L w h)) 0 (by decide) rfl (List.mem_cons_of_mem _ fl_L_11) xd_L_init_22 ?_
  refine aw_iload_n C 0 xd_L_init_25 rfl rfl ?_
  refine aw_new C (ci := 6) (fs := [.int 0, .int 0, .int 0, .null, .null, .null]) (fun w h => List.mem_cons_of_mem _ (xi_U w h)) xk_U xo_U (List.mem_cons_of_mem _ cl_L_9) (List.mem_cons_of_mem _ ci_U) (List.mem_cons_of_mem _ wi_U) rfl (fun j hj => by rcases (show j = 0 ∨ j = 1 ∨ j = 2 ∨ j = 3 ∨ j = 4 ∨ j = 5 by omega) with rfl | rfl | rfl | rfl | rfl | rfl <;> rfl) (Nat.le_of_ble_eq_true rfl) (Nat.le_of_ble_eq_true rfl) xd_L_init_26 (fun z => ?_)
  refine aw_dup C xd_L_init_29 rfl ?_
  refine aw_callIN C (xn_U_init 18 rfl z) rfl (gw_sub (gw_C xg_U_init)) (List.mem_cons_of_mem _ wi_U) (List.mem_of_getElem? (i := 2) rfl) (List.mem_cons_of_mem _ im_U_init) rfl na_U_init (rn_lt (by decide) (by decide)) ⟨Nat.le_of_ble_eq_true rfl, Nat.le_of_ble_eq_true rfl⟩ (Nat.le_of_ble_eq_true rfl) xd_L_init_30 (fun v1 hz => ?_)
  subst hz
  refine aw_astG C 1 2 11 rfl rfl rfl rfl (aw_in_ok rfl) (w' := [(h, .inr (3, [.ref q1, .int 0, .int 0])), (q1, .inl (ids 2, 6, .inr (.inr (.inr (.inr (va_up (va_up (fun _ => none) 0 (some (v0 9))) 1 (some (v1 18))))))))] ++ cr_w ids 9 9 v0 ++ cr_w ids 18 9 v1) rfl xd_L_init_33 ?_
  refine aw_iinc (j := 0) (v := (2 : Int32)) (L' := [(1, .int (2 : Int32)), (0, .ref h)]) C xd_L_init_34 rfl (by decide) (by decide) rfl ?_
  refine aw_goto (tgt := 15) C xd_L_init_37 (by decide) ?_
  refine aw_iload_n C 0 xd_L_init_15 rfl rfl ?_
  refine aw_bipush (v := (6 : Int32)) C xd_L_init_16 (by decide) ?_
  refine aw_icmp_ge (tgt := 40) C xd_L_init_18 (by decide) (fun c_0 => absurd c_0 (by decide)) (fun _ => ?_)
  refine aw_aload_n C 1 xd_L_init_21 rfl rfl ?_
  refine aw_getG C 0 rfl rfl (fun w h => List.mem_cons_of_mem _ (xi_L w h)) 0 (by decide) rfl (List.mem_cons_of_mem _ fl_L_11) xd_L_init_22 ?_
  refine aw_iload_n C 0 xd_L_init_25 rfl rfl ?_
  refine aw_new C (ci := 6) (fs := [.int 0, .int 0, .int 0, .null, .null, .null]) (fun w h => List.mem_cons_of_mem _ (xi_U w h)) xk_U xo_U (List.mem_cons_of_mem _ cl_L_9) (List.mem_cons_of_mem _ ci_U) (List.mem_cons_of_mem _ wi_U) rfl (fun j hj => by rcases (show j = 0 ∨ j = 1 ∨ j = 2 ∨ j = 3 ∨ j = 4 ∨ j = 5 by omega) with rfl | rfl | rfl | rfl | rfl | rfl <;> rfl) (Nat.le_of_ble_eq_true rfl) (Nat.le_of_ble_eq_true rfl) xd_L_init_26 (fun z => ?_)
  refine aw_dup C xd_L_init_29 rfl ?_
  refine aw_callIN C (xn_U_init 27 rfl z) rfl (gw_sub (gw_C xg_U_init)) (List.mem_cons_of_mem _ wi_U) (List.mem_of_getElem? (i := 2) rfl) (List.mem_cons_of_mem _ im_U_init) rfl na_U_init (rn_lt (by decide) (by decide)) ⟨Nat.le_of_ble_eq_true rfl, Nat.le_of_ble_eq_true rfl⟩ (Nat.le_of_ble_eq_true rfl) xd_L_init_30 (fun v2 hz => ?_)
  subst hz
  refine aw_astG C 1 2 20 rfl rfl rfl rfl (aw_in_ok rfl) (w' := [(h, .inr (3, [.ref q1, .int 0, .int 0])), (q1, .inl (ids 2, 6, .inr (.inr (.inr (.inr (va_up (va_up (va_up (fun _ => none) 0 (some (v0 9))) 1 (some (v1 18))) 2 (some (v2 27))))))))] ++ cr_w ids 9 9 v0 ++ cr_w ids 18 9 v1 ++ cr_w ids 27 9 v2) rfl xd_L_init_33 ?_
  refine aw_iinc (j := 0) (v := (3 : Int32)) (L' := [(1, .int (3 : Int32)), (0, .ref h)]) C xd_L_init_34 rfl (by decide) (by decide) rfl ?_
  refine aw_goto (tgt := 15) C xd_L_init_37 (by decide) ?_
  refine aw_iload_n C 0 xd_L_init_15 rfl rfl ?_
  refine aw_bipush (v := (6 : Int32)) C xd_L_init_16 (by decide) ?_
  refine aw_icmp_ge (tgt := 40) C xd_L_init_18 (by decide) (fun c_0 => absurd c_0 (by decide)) (fun _ => ?_)
  refine aw_aload_n C 1 xd_L_init_21 rfl rfl ?_
  refine aw_getG C 0 rfl rfl (fun w h => List.mem_cons_of_mem _ (xi_L w h)) 0 (by decide) rfl (List.mem_cons_of_mem _ fl_L_11) xd_L_init_22 ?_
  refine aw_iload_n C 0 xd_L_init_25 rfl rfl ?_
  refine aw_new C (ci := 6) (fs := [.int 0, .int 0, .int 0, .null, .null, .null]) (fun w h => List.mem_cons_of_mem _ (xi_U w h)) xk_U xo_U (List.mem_cons_of_mem _ cl_L_9) (List.mem_cons_of_mem _ ci_U) (List.mem_cons_of_mem _ wi_U) rfl (fun j hj => by rcases (show j = 0 ∨ j = 1 ∨ j = 2 ∨ j = 3 ∨ j = 4 ∨ j = 5 by omega) with rfl | rfl | rfl | rfl | rfl | rfl <;> rfl) (Nat.le_of_ble_eq_true rfl) (Nat.le_of_ble_eq_true rfl) xd_L_init_26 (fun z => ?_)
  refine aw_dup C xd_L_init_29 rfl ?_
  refine aw_callIN C (xn_U_init 36 rfl z) rfl (gw_sub (gw_C xg_U_init)) (List.mem_cons_of_mem _ wi_U) (List.mem_of_getElem? (i := 2) rfl) (List.mem_cons_of_mem _ im_U_init) rfl na_U_init (rn_lt (by decide) (by decide)) ⟨Nat.le_of_ble_eq_true rfl, Nat.le_of_ble_eq_true rfl⟩ (Nat.le_of_ble_eq_true rfl) xd_L_init_30 (fun v3 hz => ?_)
  subst hz
  refine aw_astG C 1 2 29 rfl rfl rfl rfl (aw_in_ok rfl) (w' := [(h, .inr (3, [.ref q1, .int 0, .int 0])), (q1, .inl (ids 2, 6, .inr (.inr (.inr (.inr (va_up (va_up (va_up (va_up (fun _ => none) 0 (some (v0 9))) 1 (some (v1 18))) 2 (some (v2 27))) 3 (some (v3 36))))))))] ++ cr_w ids 9 9 v0 ++ cr_w ids 18 9 v1 ++ cr_w ids 27 9 v2 ++ cr_w ids 36 9 v3) rfl xd_L_init_33 ?_
  refine aw_iinc (j := 0) (v := (4 : Int32)) (L' := [(1, .int (4 : Int32)), (0, .ref h)]) C xd_L_init_34 rfl (by decide) (by decide) rfl ?_
  refine aw_goto (tgt := 15) C xd_L_init_37 (by decide) ?_
  refine aw_iload_n C 0 xd_L_init_15 rfl rfl ?_
  refine aw_bipush (v := (6 : Int32)) C xd_L_init_16 (by decide) ?_
  refine aw_icmp_ge (tgt := 40) C xd_L_init_18 (by decide) (fun c_0 => absurd c_0 (by decide)) (fun _ => ?_)
  refine aw_aload_n C 1 xd_L_init_21 rfl rfl ?_
  refine aw_getG C 0 rfl rfl (fun w h => List.mem_cons_of_mem _ (xi_L w h)) 0 (by decide) rfl (List.mem_cons_of_mem _ fl_L_11) xd_L_init_22 ?_
  refine aw_iload_n C 0 xd_L_init_25 rfl rfl ?_
  refine aw_new C (ci := 6) (fs := [.int 0, .int 0, .int 0, .null, .null, .null]) (fun w h => List.mem_cons_of_mem _ (xi_U w h)) xk_U xo_U (List.mem_cons_of_mem _ cl_L_9) (List.mem_cons_of_mem _ ci_U) (List.mem_cons_of_mem _ wi_U) rfl (fun j hj => by rcases (show j = 0 ∨ j = 1 ∨ j = 2 ∨ j = 3 ∨ j = 4 ∨ j = 5 by omega) with rfl | rfl | rfl | rfl | rfl | rfl <;> rfl) (Nat.le_of_ble_eq_true rfl) (Nat.le_of_ble_eq_true rfl) xd_L_init_26 (fun z => ?_)
  refine aw_dup C xd_L_init_29 rfl ?_
  refine aw_callIN C (xn_U_init 45 rfl z) rfl (gw_sub (gw_C xg_U_init)) (List.mem_cons_of_mem _ wi_U) (List.mem_of_getElem? (i := 2) rfl) (List.mem_cons_of_mem _ im_U_init) rfl na_U_init (rn_lt (by decide) (by decide)) ⟨Nat.le_of_ble_eq_true rfl, Nat.le_of_ble_eq_true rfl⟩ (Nat.le_of_ble_eq_true rfl) xd_L_init_30 (fun v4 hz => ?_)
  subst hz
  refine aw_astG C 1 2 38 rfl rfl rfl rfl (aw_in_ok rfl) (w' := [(h, .inr (3, [.ref q1, .int 0, .int 0])), (q1, .inl (ids 2, 6, .inr (.inr (.inr (.inr (va_up (va_up (va_up (va_up (va_up (fun _ => none) 0 (some (v0 9))) 1 (some (v1 18))) 2 (some (v2 27))) 3 (some (v3 36))) 4 (some (v4 45))))))))] ++ cr_w ids 9 9 v0 ++ cr_w ids 18 9 v1 ++ cr_w ids 27 9 v2 ++ cr_w ids 36 9 v3 ++ cr_w ids 45 9 v4) rfl xd_L_init_33 ?_
  refine aw_iinc (j := 0) (v := (5 : Int32)) (L' := [(1, .int (5 : Int32)), (0, .ref h)]) C xd_L_init_34 rfl (by decide) (by decide) rfl ?_
  refine aw_goto (tgt := 15) C xd_L_init_37 (by decide) ?_
  refine aw_iload_n C 0 xd_L_init_15 rfl rfl ?_
  refine aw_bipush (v := (6 : Int32)) C xd_L_init_16 (by decide) ?_
  refine aw_icmp_ge (tgt := 40) C xd_L_init_18 (by decide) (fun c_0 => absurd c_0 (by decide)) (fun _ => ?_)
  refine aw_aload_n C 1 xd_L_init_21 rfl rfl ?_
  refine aw_getG C 0 rfl rfl (fun w h => List.mem_cons_of_mem _ (xi_L w h)) 0 (by decide) rfl (List.mem_cons_of_mem _ fl_L_11) xd_L_init_22 ?_
  refine aw_iload_n C 0 xd_L_init_25 rfl rfl ?_
  refine aw_new C (ci := 6) (fs := [.int 0, .int 0, .int 0, .null, .null, .null]) (fun w h => List.mem_cons_of_mem _ (xi_U w h)) xk_U xo_U (List.mem_cons_of_mem _ cl_L_9) (List.mem_cons_of_mem _ ci_U) (List.mem_cons_of_mem _ wi_U) rfl (fun j hj => by rcases (show j = 0 ∨ j = 1 ∨ j = 2 ∨ j = 3 ∨ j = 4 ∨ j = 5 by omega) with rfl | rfl | rfl | rfl | rfl | rfl <;> rfl) (Nat.le_of_ble_eq_true rfl) (Nat.le_of_ble_eq_true rfl) xd_L_init_26 (fun z => ?_)
  refine aw_dup C xd_L_init_29 rfl ?_
  refine aw_callIN C (xn_U_init 54 rfl z) rfl (gw_sub (gw_C xg_U_init)) (List.mem_cons_of_mem _ wi_U) (List.mem_of_getElem? (i := 2) rfl) (List.mem_cons_of_mem _ im_U_init) rfl na_U_init (rn_lt (by decide) (by decide)) ⟨Nat.le_of_ble_eq_true rfl, Nat.le_of_ble_eq_true rfl⟩ (Nat.le_of_ble_eq_true rfl) xd_L_init_30 (fun v5 hz => ?_)
  subst hz
  refine aw_astG C 1 2 47 rfl rfl rfl rfl (aw_in_ok rfl) (w' := [(h, .inr (3, [.ref q1, .int 0, .int 0])), (q1, .inl (ids 2, 6, .inr (.inr (.inr (.inr (va_up (va_up (va_up (va_up (va_up (va_up (fun _ => none) 0 (some (v0 9))) 1 (some (v1 18))) 2 (some (v2 27))) 3 (some (v3 36))) 4 (some (v4 45))) 5 (some (v5 54))))))))] ++ cr_w ids 9 9 v0 ++ cr_w ids 18 9 v1 ++ cr_w ids 27 9 v2 ++ cr_w ids 36 9 v3 ++ cr_w ids 45 9 v4 ++ cr_w ids 54 9 v5) rfl xd_L_init_33 ?_
  refine aw_iinc (j := 0) (v := (6 : Int32)) (L' := [(1, .int (6 : Int32)), (0, .ref h)]) C xd_L_init_34 rfl (by decide) (by decide) rfl ?_
  refine aw_goto (tgt := 15) C xd_L_init_37 (by decide) ?_
  refine aw_iload_n C 0 xd_L_init_15 rfl rfl ?_
  refine aw_bipush (v := (6 : Int32)) C xd_L_init_16 (by decide) ?_
  refine aw_icmp_ge (tgt := 40) C xd_L_init_18 (by decide) (fun _ => ?_) (fun c_0 => absurd (by decide) c_0)
  obtain ⟨u, hu⟩ : ∃ u : Nat → Nat, u = (fun k => if k = 7 then h else if k = 8 then q1 else if k < 18 then v0 k else if k < 27 then v1 k else if k < 36 then v2 k else if k < 45 then v3 k else if k < 54 then v4 k else v5 k) := ⟨_, rfl⟩
  have hg0 : cr_w ids 9 9 v0 = cr_w ids 9 9 u := cg_U (rfl : kd_k 9 = 6) (fun j h1 h2 => by rw [hu]; show v0 j = ite _ _ _; rw [if_neg (by omega), if_neg (by omega), if_pos (by omega)])
  have hg1 : cr_w ids 18 9 v1 = cr_w ids 18 9 u := cg_U (rfl : kd_k 18 = 6) (fun j h1 h2 => by rw [hu]; show v1 j = ite _ _ _; rw [if_neg (by omega), if_neg (by omega), if_neg (by omega), if_pos (by omega)])
  have hg2 : cr_w ids 27 9 v2 = cr_w ids 27 9 u := cg_U (rfl : kd_k 27 = 6) (fun j h1 h2 => by rw [hu]; show v2 j = ite _ _ _; rw [if_neg (by omega), if_neg (by omega), if_neg (by omega), if_neg (by omega), if_pos (by omega)])
  have hg3 : cr_w ids 36 9 v3 = cr_w ids 36 9 u := cg_U (rfl : kd_k 36 = 6) (fun j h1 h2 => by rw [hu]; show v3 j = ite _ _ _; rw [if_neg (by omega), if_neg (by omega), if_neg (by omega), if_neg (by omega), if_neg (by omega), if_pos (by omega)])
  have hg4 : cr_w ids 45 9 v4 = cr_w ids 45 9 u := cg_U (rfl : kd_k 45 = 6) (fun j h1 h2 => by rw [hu]; show v4 j = ite _ _ _; rw [if_neg (by omega), if_neg (by omega), if_neg (by omega), if_neg (by omega), if_neg (by omega), if_neg (by omega), if_pos (by omega)])
  have hg5 : cr_w ids 54 9 v5 = cr_w ids 54 9 u := cg_U (rfl : kd_k 54 = 6) (fun j h1 h2 => by rw [hu]; show v5 j = ite _ _ _; rw [if_neg (by omega), if_neg (by omega), if_neg (by omega), if_neg (by omega), if_neg (by omega), if_neg (by omega), if_neg (by omega)])
  have hq0 : v0 9 = u 9 := by rw [hu]; rfl
  have hq1 : v1 18 = u 18 := by rw [hu]; rfl
  have hq2 : v2 27 = u 27 := by rw [hu]; rfl
  have hq3 : v3 36 = u 36 := by rw [hu]; rfl
  have hq4 : v4 45 = u 45 := by rw [hu]; rfl
  have hq5 : v5 54 = u 54 := by rw [hu]; rfl
  have hfg : ∀ k, k < 6 → (va_up (va_up (va_up (va_up (va_up (va_up (fun _ => none) 0 (some (v0 9))) 1 (some (v1 18))) 2 (some (v2 27))) 3 (some (v3 36))) 4 (some (v4 45))) 5 (some (v5 54))) k = (fun k => if k < 6 then some (u (8 + 1 + 9 * k)) else none) k := fun k hk => match k, hk with
    | 0, _ => congrArg some hq0
    | 1, _ => congrArg some hq1
    | 2, _ => congrArg some hq2
    | 3, _ => congrArg some hq3
    | 4, _ => congrArg some hq4
    | 5, _ => congrArg some hq5
    | k + 6, hk => absurd hk (by omega)
  refine aw_arr C 1 (g := fun k => if k < 6 then some (u (8 + 1 + 9 * k)) else none) rfl hfg rfl ?_
  refine aw_vretN C u (by rw [hu]; rfl) ?_ xd_L_init_40
  show cr_w ids 7 56 u = _
  rw [hg0, hg1, hg2, hg3, hg4, hg5]
  rw [show h = u 7 from (by rw [hu]; rfl)]
  rw [show q1 = u 8 from (by rw [hu]; rfl)]
  rfl

set_option maxHeartbeats 4000000 in
set_option maxRecDepth 100000 in
theorem xn_M_init {l : Launch} {D : va_G} {ids : Nat → ClassId} {ps : Nat} (h : Nat) : aw_N l D (ty_z ids) (zs_T ps) xy_M_init (xw_M_init :: gw_l) (rm_N 4 68 984) 68 984 h (.inr (5, [.null, .null])) ((fun u => cr_w ids 63 69 u)) (fun u => u 63 = h) := by
  refine aw_introN (cc := xb_M_init) (n := 2) "ModuleShelf$Memory" rfl rfl (by decide) rfl (by decide) ?_
  intro κ C hI
  refine aw_aload_n C 0 xd_M_init_0 rfl rfl ?_
  refine aw_obj C (List.mem_cons_of_mem _ ml_M_3) (List.mem_cons_of_mem _ wo_inst) (List.mem_cons_of_mem _ wo_code) (by decide) (by decide) xd_M_init_1 ?_
  refine aw_aload_n C 0 xd_M_init_4 rfl rfl ?_
  refine aw_bipush (v := (6 : Int32)) C xd_M_init_5 (by decide) ?_
  refine aw_newq C (List.mem_cons_of_mem _ cl_M_9) (List.mem_of_getElem? (i := 11) rfl) 3 rfl (by decide) (N' := 6) rfl (by decide) (Nat.le_of_ble_eq_true rfl) (Nat.le_of_ble_eq_true rfl) xd_M_init_7 (fun q1 => ?_)
  refine aw_putFG C hI 0 rfl rfl (fun w h => List.mem_cons_of_mem _ (xi_M w h)) xk_M xo_M xn_M 0 (by decide) (List.mem_cons_of_mem _ fl_M_11) rfl rfl (ty := .array (.object "ModuleShelf$Image")) (by decide +kernel) rfl rfl (Nat.le_of_ble_eq_true rfl) (w' := [(h, .inr (5, [.ref q1, .null])), (q1, .inl (ids 3, 6, .inr (.inr (.inr (.inr (fun _ => none))))))]) rfl xd_M_init_10 ?_
  refine aw_aload_n C 0 xd_M_init_13 rfl rfl ?_
  refine aw_bipush (v := (6 : Int32)) C xd_M_init_14 (by decide) ?_
  refine aw_newa (atype := .boolean) C (List.mem_cons_of_mem _ wa_bool) rfl 1 rfl (a0 := (6, .inl (fun _ => 0))) (fun _ => rfl) (by decide) (N' := 6) rfl (by decide) (Nat.le_of_ble_eq_true rfl) (Nat.le_of_ble_eq_true rfl) xd_M_init_16 (fun q2 => ?_)
  refine aw_putFG C hI 0 rfl rfl (fun w h => List.mem_cons_of_mem _ (xi_M w h)) xk_M xo_M xn_M 1 (by decide) (List.mem_cons_of_mem _ fl_M_17) rfl rfl (ty := .array .boolean) (by decide +kernel) rfl rfl (Nat.le_of_ble_eq_true rfl) (w' := [(h, .inr (5, [.ref q1, .ref q2])), (q1, .inl (ids 3, 6, .inr (.inr (.inr (.inr (fun _ => none)))))), (q2, .inl (ids 1, 6, .inl (fun _ => 0)))]) rfl xd_M_init_18 ?_
  refine aw_iconst (v := (0 : Int32)) C xd_M_init_21 (by decide) ?_
  refine aw_istore_n (L' := [(1, .int (0 : Int32)), (0, .ref h)]) C xd_M_init_22 rfl (by decide) rfl ?_
  refine aw_iload_n C 0 xd_M_init_23 rfl rfl ?_
  refine aw_bipush (v := (6 : Int32)) C xd_M_init_24 (by decide) ?_
  refine aw_icmp_ge (tgt := 48) C xd_M_init_26 (by decide) (fun c_0 => absurd c_0 (by decide)) (fun _ => ?_)
  refine aw_aload_n C 1 xd_M_init_29 rfl rfl ?_
  refine aw_getG C 0 rfl rfl (fun w h => List.mem_cons_of_mem _ (xi_M w h)) 0 (by decide) rfl (List.mem_cons_of_mem _ fl_M_11) xd_M_init_30 ?_
  refine aw_iload_n C 0 xd_M_init_33 rfl rfl ?_
  refine aw_new C (ci := 2) (fs := [.null, .null]) (fun w h => List.mem_cons_of_mem _ (xi_I w h)) xk_I xo_I (List.mem_cons_of_mem _ cl_M_9) (List.mem_cons_of_mem _ ci_I) (List.mem_cons_of_mem _ wi_I) rfl (fun j hj => by rcases (show j = 0 ∨ j = 1 by omega) with rfl | rfl <;> rfl) (Nat.le_of_ble_eq_true rfl) (Nat.le_of_ble_eq_true rfl) xd_M_init_34 (fun z => ?_)
  refine aw_dup C xd_M_init_37 rfl ?_
  refine aw_callIN C (xn_I_init 66 rfl z) rfl (gw_sub (gw_C xg_I_init)) (List.mem_cons_of_mem _ wi_I) (List.mem_of_getElem? (i := 5) rfl) (List.mem_cons_of_mem _ im_I_init) rfl na_I_init (rn_lt (by decide) (by decide)) ⟨Nat.le_of_ble_eq_true rfl, Nat.le_of_ble_eq_true rfl⟩ (Nat.le_of_ble_eq_true rfl) xd_M_init_38 (fun v0 hz => ?_)
  subst hz
  refine aw_astG C 1 3 3 rfl rfl rfl rfl (aw_in_ok rfl) (w' := [(h, .inr (5, [.ref q1, .ref q2])), (q1, .inl (ids 3, 6, .inr (.inr (.inr (.inr (va_up (fun _ => none) 0 (some (v0 66)))))))), (q2, .inl (ids 1, 6, .inl (fun _ => 0)))] ++ cr_w ids 66 11 v0) rfl xd_M_init_41 ?_
  refine aw_iinc (j := 0) (v := (1 : Int32)) (L' := [(1, .int (1 : Int32)), (0, .ref h)]) C xd_M_init_42 rfl (by decide) (by decide) rfl ?_
  refine aw_goto (tgt := 23) C xd_M_init_45 (by decide) ?_
  refine aw_iload_n C 0 xd_M_init_23 rfl rfl ?_
  refine aw_bipush (v := (6 : Int32)) C xd_M_init_24 (by decide) ?_
  refine aw_icmp_ge (tgt := 48) C xd_M_init_26 (by decide) (fun c_0 => absurd c_0 (by decide)) (fun _ => ?_)
  refine aw_aload_n C 1 xd_M_init_29 rfl rfl ?_
  refine aw_getG C 0 rfl rfl (fun w h => List.mem_cons_of_mem _ (xi_M w h)) 0 (by decide) rfl (List.mem_cons_of_mem _ fl_M_11) xd_M_init_30 ?_
  refine aw_iload_n C 0 xd_M_init_33 rfl rfl ?_
  refine aw_new C (ci := 2) (fs := [.null, .null]) (fun w h => List.mem_cons_of_mem _ (xi_I w h)) xk_I xo_I (List.mem_cons_of_mem _ cl_M_9) (List.mem_cons_of_mem _ ci_I) (List.mem_cons_of_mem _ wi_I) rfl (fun j hj => by rcases (show j = 0 ∨ j = 1 by omega) with rfl | rfl <;> rfl) (Nat.le_of_ble_eq_true rfl) (Nat.le_of_ble_eq_true rfl) xd_M_init_34 (fun z => ?_)
  refine aw_dup C xd_M_init_37 rfl ?_
  refine aw_callIN C (xn_I_init 77 rfl z) rfl (gw_sub (gw_C xg_I_init)) (List.mem_cons_of_mem _ wi_I) (List.mem_of_getElem? (i := 5) rfl) (List.mem_cons_of_mem _ im_I_init) rfl na_I_init (rn_lt (by decide) (by decide)) ⟨Nat.le_of_ble_eq_true rfl, Nat.le_of_ble_eq_true rfl⟩ (Nat.le_of_ble_eq_true rfl) xd_M_init_38 (fun v1 hz => ?_)
  subst hz
  refine aw_astG C 1 3 14 rfl rfl rfl rfl (aw_in_ok rfl) (w' := [(h, .inr (5, [.ref q1, .ref q2])), (q1, .inl (ids 3, 6, .inr (.inr (.inr (.inr (va_up (va_up (fun _ => none) 0 (some (v0 66))) 1 (some (v1 77)))))))), (q2, .inl (ids 1, 6, .inl (fun _ => 0)))] ++ cr_w ids 66 11 v0 ++ cr_w ids 77 11 v1) rfl xd_M_init_41 ?_
  refine aw_iinc (j := 0) (v := (2 : Int32)) (L' := [(1, .int (2 : Int32)), (0, .ref h)]) C xd_M_init_42 rfl (by decide) (by decide) rfl ?_
  refine aw_goto (tgt := 23) C xd_M_init_45 (by decide) ?_
  refine aw_iload_n C 0 xd_M_init_23 rfl rfl ?_
  refine aw_bipush (v := (6 : Int32)) C xd_M_init_24 (by decide) ?_
  refine aw_icmp_ge (tgt := 48) C xd_M_init_26 (by decide) (fun c_0 => absurd c_0 (by decide)) (fun _ => ?_)
  refine aw_aload_n C 1 xd_M_init_29 rfl rfl ?_
  refine aw_getG C 0 rfl rfl (fun w h => List.mem_cons_of_mem _ (xi_M w h)) 0 (by decide) rfl (List.mem_cons_of_mem _ fl_M_11) xd_M_init_30 ?_
  refine aw_iload_n C 0 xd_M_init_33 rfl rfl ?_
  refine aw_new C (ci := 2) (fs := [.null, .null]) (fun w h => List.mem_cons_of_mem _ (xi_I w h)) xk_I xo_I (List.mem_cons_of_mem _ cl_M_9) (List.mem_cons_of_mem _ ci_I) (List.mem_cons_of_mem _ wi_I) rfl (fun j hj => by rcases (show j = 0 ∨ j = 1 by omega) with rfl | rfl <;> rfl) (Nat.le_of_ble_eq_true rfl) (Nat.le_of_ble_eq_true rfl) xd_M_init_34 (fun z => ?_)
  refine aw_dup C xd_M_init_37 rfl ?_
  refine aw_callIN C (xn_I_init 88 rfl z) rfl (gw_sub (gw_C xg_I_init)) (List.mem_cons_of_mem _ wi_I) (List.mem_of_getElem? (i := 5) rfl) (List.mem_cons_of_mem _ im_I_init) rfl na_I_init (rn_lt (by decide) (by decide)) ⟨Nat.le_of_ble_eq_true rfl, Nat.le_of_ble_eq_true rfl⟩ (Nat.le_of_ble_eq_true rfl) xd_M_init_38 (fun v2 hz => ?_)
  subst hz
  refine aw_astG C 1 3 25 rfl rfl rfl rfl (aw_in_ok rfl) (w' := [(h, .inr (5, [.ref q1, .ref q2])), (q1, .inl (ids 3, 6, .inr (.inr (.inr (.inr (va_up (va_up (va_up (fun _ => none) 0 (some (v0 66))) 1 (some (v1 77))) 2 (some (v2 88)))))))), (q2, .inl (ids 1, 6, .inl (fun _ => 0)))] ++ cr_w ids 66 11 v0 ++ cr_w ids 77 11 v1 ++ cr_w ids 88 11 v2) rfl xd_M_init_41 ?_
  refine aw_iinc (j := 0) (v := (3 : Int32)) (L' := [(1, .int (3 : Int32)), (0, .ref h)]) C xd_M_init_42 rfl (by decide) (by decide) rfl ?_
  refine aw_goto (tgt := 23) C xd_M_init_45 (by decide) ?_
  refine aw_iload_n C 0 xd_M_init_23 rfl rfl ?_
  refine aw_bipush (v := (6 : Int32)) C xd_M_init_24 (by decide) ?_
  refine aw_icmp_ge (tgt := 48) C xd_M_init_26 (by decide) (fun c_0 => absurd c_0 (by decide)) (fun _ => ?_)
  refine aw_aload_n C 1 xd_M_init_29 rfl rfl ?_
  refine aw_getG C 0 rfl rfl (fun w h => List.mem_cons_of_mem _ (xi_M w h)) 0 (by decide) rfl (List.mem_cons_of_mem _ fl_M_11) xd_M_init_30 ?_
  refine aw_iload_n C 0 xd_M_init_33 rfl rfl ?_
  refine aw_new C (ci := 2) (fs := [.null, .null]) (fun w h => List.mem_cons_of_mem _ (xi_I w h)) xk_I xo_I (List.mem_cons_of_mem _ cl_M_9) (List.mem_cons_of_mem _ ci_I) (List.mem_cons_of_mem _ wi_I) rfl (fun j hj => by rcases (show j = 0 ∨ j = 1 by omega) with rfl | rfl <;> rfl) (Nat.le_of_ble_eq_true rfl) (Nat.le_of_ble_eq_true rfl) xd_M_init_34 (fun z => ?_)
  refine aw_dup C xd_M_init_37 rfl ?_
  refine aw_callIN C (xn_I_init 99 rfl z) rfl (gw_sub (gw_C xg_I_init)) (List.mem_cons_of_mem _ wi_I) (List.mem_of_getElem? (i := 5) rfl) (List.mem_cons_of_mem _ im_I_init) rfl na_I_init (rn_lt (by decide) (by decide)) ⟨Nat.le_of_ble_eq_true rfl, Nat.le_of_ble_eq_true rfl⟩ (Nat.le_of_ble_eq_true rfl) xd_M_init_38 (fun v3 hz => ?_)
  subst hz
  refine aw_astG C 1 3 36 rfl rfl rfl rfl (aw_in_ok rfl) (w' := [(h, .inr (5, [.ref q1, .ref q2])), (q1, .inl (ids 3, 6, .inr (.inr (.inr (.inr (va_up (va_up (va_up (va_up (fun _ => none) 0 (some (v0 66))) 1 (some (v1 77))) 2 (some (v2 88))) 3 (some (v3 99)))))))), (q2, .inl (ids 1, 6, .inl (fun _ => 0)))] ++ cr_w ids 66 11 v0 ++ cr_w ids 77 11 v1 ++ cr_w ids 88 11 v2 ++ cr_w ids 99 11 v3) rfl xd_M_init_41 ?_
  refine aw_iinc (j := 0) (v := (4 : Int32)) (L' := [(1, .int (4 : Int32)), (0, .ref h)]) C xd_M_init_42 rfl (by decide) (by decide) rfl ?_
  refine aw_goto (tgt := 23) C xd_M_init_45 (by decide) ?_
  refine aw_iload_n C 0 xd_M_init_23 rfl rfl ?_
  refine aw_bipush (v := (6 : Int32)) C xd_M_init_24 (by decide) ?_
  refine aw_icmp_ge (tgt := 48) C xd_M_init_26 (by decide) (fun c_0 => absurd c_0 (by decide)) (fun _ => ?_)
  refine aw_aload_n C 1 xd_M_init_29 rfl rfl ?_
  refine aw_getG C 0 rfl rfl (fun w h => List.mem_cons_of_mem _ (xi_M w h)) 0 (by decide) rfl (List.mem_cons_of_mem _ fl_M_11) xd_M_init_30 ?_
  refine aw_iload_n C 0 xd_M_init_33 rfl rfl ?_
  refine aw_new C (ci := 2) (fs := [.null, .null]) (fun w h => List.mem_cons_of_mem _ (xi_I w h)) xk_I xo_I (List.mem_cons_of_mem _ cl_M_9) (List.mem_cons_of_mem _ ci_I) (List.mem_cons_of_mem _ wi_I) rfl (fun j hj => by rcases (show j = 0 ∨ j = 1 by omega) with rfl | rfl <;> rfl) (Nat.le_of_ble_eq_true rfl) (Nat.le_of_ble_eq_true rfl) xd_M_init_34 (fun z => ?_)
  refine aw_dup C xd_M_init_37 rfl ?_
  refine aw_callIN C (xn_I_init 110 rfl z) rfl (gw_sub (gw_C xg_I_init)) (List.mem_cons_of_mem _ wi_I) (List.mem_of_getElem? (i := 5) rfl) (List.mem_cons_of_mem _ im_I_init) rfl na_I_init (rn_lt (by decide) (by decide)) ⟨Nat.le_of_ble_eq_true rfl, Nat.le_of_ble_eq_true rfl⟩ (Nat.le_of_ble_eq_true rfl) xd_M_init_38 (fun v4 hz => ?_)
  subst hz
  refine aw_astG C 1 3 47 rfl rfl rfl rfl (aw_in_ok rfl) (w' := [(h, .inr (5, [.ref q1, .ref q2])), (q1, .inl (ids 3, 6, .inr (.inr (.inr (.inr (va_up (va_up (va_up (va_up (va_up (fun _ => none) 0 (some (v0 66))) 1 (some (v1 77))) 2 (some (v2 88))) 3 (some (v3 99))) 4 (some (v4 110)))))))), (q2, .inl (ids 1, 6, .inl (fun _ => 0)))] ++ cr_w ids 66 11 v0 ++ cr_w ids 77 11 v1 ++ cr_w ids 88 11 v2 ++ cr_w ids 99 11 v3 ++ cr_w ids 110 11 v4) rfl xd_M_init_41 ?_
  refine aw_iinc (j := 0) (v := (5 : Int32)) (L' := [(1, .int (5 : Int32)), (0, .ref h)]) C xd_M_init_42 rfl (by decide) (by decide) rfl ?_
  refine aw_goto (tgt := 23) C xd_M_init_45 (by decide) ?_
  refine aw_iload_n C 0 xd_M_init_23 rfl rfl ?_
  refine aw_bipush (v := (6 : Int32)) C xd_M_init_24 (by decide) ?_
  refine aw_icmp_ge (tgt := 48) C xd_M_init_26 (by decide) (fun c_0 => absurd c_0 (by decide)) (fun _ => ?_)
  refine aw_aload_n C 1 xd_M_init_29 rfl rfl ?_
  refine aw_getG C 0 rfl rfl (fun w h => List.mem_cons_of_mem _ (xi_M w h)) 0 (by decide) rfl (List.mem_cons_of_mem _ fl_M_11) xd_M_init_30 ?_
  refine aw_iload_n C 0 xd_M_init_33 rfl rfl ?_
  refine aw_new C (ci := 2) (fs := [.null, .null]) (fun w h => List.mem_cons_of_mem _ (xi_I w h)) xk_I xo_I (List.mem_cons_of_mem _ cl_M_9) (List.mem_cons_of_mem _ ci_I) (List.mem_cons_of_mem _ wi_I) rfl (fun j hj => by rcases (show j = 0 ∨ j = 1 by omega) with rfl | rfl <;> rfl) (Nat.le_of_ble_eq_true rfl) (Nat.le_of_ble_eq_true rfl) xd_M_init_34 (fun z => ?_)
  refine aw_dup C xd_M_init_37 rfl ?_
  refine aw_callIN C (xn_I_init 121 rfl z) rfl (gw_sub (gw_C xg_I_init)) (List.mem_cons_of_mem _ wi_I) (List.mem_of_getElem? (i := 5) rfl) (List.mem_cons_of_mem _ im_I_init) rfl na_I_init (rn_lt (by decide) (by decide)) ⟨Nat.le_of_ble_eq_true rfl, Nat.le_of_ble_eq_true rfl⟩ (Nat.le_of_ble_eq_true rfl) xd_M_init_38 (fun v5 hz => ?_)
  subst hz
  refine aw_astG C 1 3 58 rfl rfl rfl rfl (aw_in_ok rfl) (w' := [(h, .inr (5, [.ref q1, .ref q2])), (q1, .inl (ids 3, 6, .inr (.inr (.inr (.inr (va_up (va_up (va_up (va_up (va_up (va_up (fun _ => none) 0 (some (v0 66))) 1 (some (v1 77))) 2 (some (v2 88))) 3 (some (v3 99))) 4 (some (v4 110))) 5 (some (v5 121)))))))), (q2, .inl (ids 1, 6, .inl (fun _ => 0)))] ++ cr_w ids 66 11 v0 ++ cr_w ids 77 11 v1 ++ cr_w ids 88 11 v2 ++ cr_w ids 99 11 v3 ++ cr_w ids 110 11 v4 ++ cr_w ids 121 11 v5) rfl xd_M_init_41 ?_
  refine aw_iinc (j := 0) (v := (6 : Int32)) (L' := [(1, .int (6 : Int32)), (0, .ref h)]) C xd_M_init_42 rfl (by decide) (by decide) rfl ?_
  refine aw_goto (tgt := 23) C xd_M_init_45 (by decide) ?_
  refine aw_iload_n C 0 xd_M_init_23 rfl rfl ?_
  refine aw_bipush (v := (6 : Int32)) C xd_M_init_24 (by decide) ?_
  refine aw_icmp_ge (tgt := 48) C xd_M_init_26 (by decide) (fun _ => ?_) (fun c_0 => absurd (by decide) c_0)
  obtain ⟨u, hu⟩ : ∃ u : Nat → Nat, u = (fun k => if k = 63 then h else if k = 64 then q1 else if k = 65 then q2 else if k < 77 then v0 k else if k < 88 then v1 k else if k < 99 then v2 k else if k < 110 then v3 k else if k < 121 then v4 k else v5 k) := ⟨_, rfl⟩
  have hg0 : cr_w ids 66 11 v0 = cr_w ids 66 11 u := cg_I (rfl : kd_k 66 = 11) (fun j h1 h2 => by rw [hu]; show v0 j = ite _ _ _; rw [if_neg (by omega), if_neg (by omega), if_neg (by omega), if_pos (by omega)])
  have hg1 : cr_w ids 77 11 v1 = cr_w ids 77 11 u := cg_I (rfl : kd_k 77 = 11) (fun j h1 h2 => by rw [hu]; show v1 j = ite _ _ _; rw [if_neg (by omega), if_neg (by omega), if_neg (by omega), if_neg (by omega), if_pos (by omega)])
  have hg2 : cr_w ids 88 11 v2 = cr_w ids 88 11 u := cg_I (rfl : kd_k 88 = 11) (fun j h1 h2 => by rw [hu]; show v2 j = ite _ _ _; rw [if_neg (by omega), if_neg (by omega), if_neg (by omega), if_neg (by omega), if_neg (by omega), if_pos (by omega)])
  have hg3 : cr_w ids 99 11 v3 = cr_w ids 99 11 u := cg_I (rfl : kd_k 99 = 11) (fun j h1 h2 => by rw [hu]; show v3 j = ite _ _ _; rw [if_neg (by omega), if_neg (by omega), if_neg (by omega), if_neg (by omega), if_neg (by omega), if_neg (by omega), if_pos (by omega)])
  have hg4 : cr_w ids 110 11 v4 = cr_w ids 110 11 u := cg_I (rfl : kd_k 110 = 11) (fun j h1 h2 => by rw [hu]; show v4 j = ite _ _ _; rw [if_neg (by omega), if_neg (by omega), if_neg (by omega), if_neg (by omega), if_neg (by omega), if_neg (by omega), if_neg (by omega), if_pos (by omega)])
  have hg5 : cr_w ids 121 11 v5 = cr_w ids 121 11 u := cg_I (rfl : kd_k 121 = 11) (fun j h1 h2 => by rw [hu]; show v5 j = ite _ _ _; rw [if_neg (by omega), if_neg (by omega), if_neg (by omega), if_neg (by omega), if_neg (by omega), if_neg (by omega), if_neg (by omega), if_neg (by omega)])
  have hq0 : v0 66 = u 66 := by rw [hu]; rfl
  have hq1 : v1 77 = u 77 := by rw [hu]; rfl
  have hq2 : v2 88 = u 88 := by rw [hu]; rfl
  have hq3 : v3 99 = u 99 := by rw [hu]; rfl
  have hq4 : v4 110 = u 110 := by rw [hu]; rfl
  have hq5 : v5 121 = u 121 := by rw [hu]; rfl
  have hfg : ∀ k, k < 6 → (va_up (va_up (va_up (va_up (va_up (va_up (fun _ => none) 0 (some (v0 66))) 1 (some (v1 77))) 2 (some (v2 88))) 3 (some (v3 99))) 4 (some (v4 110))) 5 (some (v5 121))) k = (fun k => if k < 6 then some (u (64 + 2 + 11 * k)) else none) k := fun k hk => match k, hk with
    | 0, _ => congrArg some hq0
    | 1, _ => congrArg some hq1
    | 2, _ => congrArg some hq2
    | 3, _ => congrArg some hq3
    | 4, _ => congrArg some hq4
    | 5, _ => congrArg some hq5
    | k + 6, hk => absurd hk (by omega)
  refine aw_arr C 1 (g := fun k => if k < 6 then some (u (64 + 2 + 11 * k)) else none) rfl hfg rfl ?_
  refine aw_vretN C u (by rw [hu]; rfl) ?_ xd_M_init_48
  show cr_w ids 63 69 u = _
  rw [hg0, hg1, hg2, hg3, hg4, hg5]
  rw [show h = u 63 from (by rw [hu]; rfl)]
  rw [show q1 = u 64 from (by rw [hu]; rfl)]
  rw [show q2 = u 65 from (by rw [hu]; rfl)]
  rfl

theorem cg_F {ids : Nat → ClassId} {b : Nat} {u v : Nat → Nat} (hb : kd_k b = 14) (h : ∀ j, b ≤ j → j < b + 1 → u j = v j) : cr_w ids b 1 u = cr_w ids b 1 v := by
  show [(u b, ly_k u ids b (fun _ => 0))] = [(v b, ly_k v ids b (fun _ => 0))]
  rw [ly_F hb, ly_F hb, h b (by omega) (by omega)]
set_option maxHeartbeats 4000000 in
set_option maxRecDepth 100000 in
theorem xn_N_init {l : Launch} {D : va_G} {ids : Nat → ClassId} {ps : Nat} (h : Nat) : aw_N l D (ty_z ids) (zs_T ps) xy_N_init (xw_N_init :: gw_l) (rm_N 2 7 36) 7 36 h (.inr (4, [.null, .int 0, .int 0])) ((fun u => cr_w ids 132 8 u)) (fun u => u 132 = h) := by
  refine aw_introN (cc := xb_N_init) (n := 2) "ModuleShelf$Machine" rfl rfl (by decide) rfl (by decide) ?_
  intro κ C hI
  refine aw_aload_n C 0 xd_N_init_0 rfl rfl ?_
  refine aw_obj C (List.mem_cons_of_mem _ ml_N_3) (List.mem_cons_of_mem _ wo_inst) (List.mem_cons_of_mem _ wo_code) (by decide) (by decide) xd_N_init_1 ?_
  refine aw_aload_n C 0 xd_N_init_4 rfl rfl ?_
  refine aw_bipush (v := (6 : Int32)) C xd_N_init_5 (by decide) ?_
  refine aw_newq C (List.mem_cons_of_mem _ cl_N_9) (List.mem_of_getElem? (i := 12) rfl) 4 rfl (by decide) (N' := 6) rfl (by decide) (Nat.le_of_ble_eq_true rfl) (Nat.le_of_ble_eq_true rfl) xd_N_init_7 (fun q1 => ?_)
  refine aw_putFG C hI 0 rfl rfl (fun w h => List.mem_cons_of_mem _ (xi_N w h)) xk_N xo_N xn_N 0 (by decide) (List.mem_cons_of_mem _ fl_N_11) rfl rfl (ty := .array (.object "ModuleShelf$Frame")) (by decide +kernel) rfl rfl (Nat.le_of_ble_eq_true rfl) (w' := [(h, .inr (4, [.ref q1, .int 0, .int 0])), (q1, .inl (ids 4, 6, .inr (.inr (.inr (.inr (fun _ => none))))))]) rfl xd_N_init_10 ?_
  refine aw_iconst (v := (0 : Int32)) C xd_N_init_13 (by decide) ?_
  refine aw_istore_n (L' := [(1, .int (0 : Int32)), (0, .ref h)]) C xd_N_init_14 rfl (by decide) rfl ?_
  refine aw_iload_n C 0 xd_N_init_15 rfl rfl ?_
  refine aw_aload_n C 1 xd_N_init_16 rfl rfl ?_
  refine aw_getG C 0 rfl rfl (fun w h => List.mem_cons_of_mem _ (xi_N w h)) 0 (by decide) rfl (List.mem_cons_of_mem _ fl_N_11) xd_N_init_17 ?_
  refine aw_alenG (v := (6 : Int32)) C 1 4 rfl rfl rfl xd_N_init_20 ?_
  refine aw_icmp_ge (tgt := 43) C xd_N_init_21 (by decide) (fun c_0 => absurd c_0 (by decide)) (fun _ => ?_)
  refine aw_aload_n C 1 xd_N_init_24 rfl rfl ?_
  refine aw_getG C 0 rfl rfl (fun w h => List.mem_cons_of_mem _ (xi_N w h)) 0 (by decide) rfl (List.mem_cons_of_mem _ fl_N_11) xd_N_init_25 ?_
  refine aw_iload_n C 0 xd_N_init_28 rfl rfl ?_
  refine aw_new C (ci := 1) (fs := [.int 0, .int 0, .int 0, .int 0, .int 0]) (fun w h => List.mem_cons_of_mem _ (xi_F w h)) xk_F xo_F (List.mem_cons_of_mem _ cl_N_9) (List.mem_cons_of_mem _ ci_F) (List.mem_cons_of_mem _ wi_F) rfl (fun j hj => by rcases (show j = 0 ∨ j = 1 ∨ j = 2 ∨ j = 3 ∨ j = 4 by omega) with rfl | rfl | rfl | rfl | rfl <;> rfl) (Nat.le_of_ble_eq_true rfl) (Nat.le_of_ble_eq_true rfl) xd_N_init_29 (fun z => ?_)
  refine aw_dup C xd_N_init_32 rfl ?_
  refine aw_callIN C (xn_F_init 134 rfl z) rfl (gw_sub (gw_C xg_F_init)) (List.mem_cons_of_mem _ wi_F) (List.mem_of_getElem? (i := 4) rfl) (List.mem_cons_of_mem _ im_F_init) rfl na_F_init (rn_lt (by decide) (by decide)) ⟨Nat.le_of_ble_eq_true rfl, Nat.le_of_ble_eq_true rfl⟩ (Nat.le_of_ble_eq_true rfl) xd_N_init_33 (fun v0 hz => ?_)
  subst hz
  refine aw_astG C 1 4 2 rfl rfl rfl rfl (aw_in_ok rfl) (w' := [(h, .inr (4, [.ref q1, .int 0, .int 0])), (q1, .inl (ids 4, 6, .inr (.inr (.inr (.inr (va_up (fun _ => none) 0 (some (v0 134))))))))] ++ cr_w ids 134 1 v0) rfl xd_N_init_36 ?_
  refine aw_iinc (j := 0) (v := (1 : Int32)) (L' := [(1, .int (1 : Int32)), (0, .ref h)]) C xd_N_init_37 rfl (by decide) (by decide) rfl ?_
  refine aw_goto (tgt := 15) C xd_N_init_40 (by decide) ?_
  refine aw_iload_n C 0 xd_N_init_15 rfl rfl ?_
  refine aw_aload_n C 1 xd_N_init_16 rfl rfl ?_
  refine aw_getG C 0 rfl rfl (fun w h => List.mem_cons_of_mem _ (xi_N w h)) 0 (by decide) rfl (List.mem_cons_of_mem _ fl_N_11) xd_N_init_17 ?_
  refine aw_alenG (v := (6 : Int32)) C 1 4 rfl rfl rfl xd_N_init_20 ?_
  refine aw_icmp_ge (tgt := 43) C xd_N_init_21 (by decide) (fun c_0 => absurd c_0 (by decide)) (fun _ => ?_)
  refine aw_aload_n C 1 xd_N_init_24 rfl rfl ?_
  refine aw_getG C 0 rfl rfl (fun w h => List.mem_cons_of_mem _ (xi_N w h)) 0 (by decide) rfl (List.mem_cons_of_mem _ fl_N_11) xd_N_init_25 ?_
  refine aw_iload_n C 0 xd_N_init_28 rfl rfl ?_
  refine aw_new C (ci := 1) (fs := [.int 0, .int 0, .int 0, .int 0, .int 0]) (fun w h => List.mem_cons_of_mem _ (xi_F w h)) xk_F xo_F (List.mem_cons_of_mem _ cl_N_9) (List.mem_cons_of_mem _ ci_F) (List.mem_cons_of_mem _ wi_F) rfl (fun j hj => by rcases (show j = 0 ∨ j = 1 ∨ j = 2 ∨ j = 3 ∨ j = 4 by omega) with rfl | rfl | rfl | rfl | rfl <;> rfl) (Nat.le_of_ble_eq_true rfl) (Nat.le_of_ble_eq_true rfl) xd_N_init_29 (fun z => ?_)
  refine aw_dup C xd_N_init_32 rfl ?_
  refine aw_callIN C (xn_F_init 135 rfl z) rfl (gw_sub (gw_C xg_F_init)) (List.mem_cons_of_mem _ wi_F) (List.mem_of_getElem? (i := 4) rfl) (List.mem_cons_of_mem _ im_F_init) rfl na_F_init (rn_lt (by decide) (by decide)) ⟨Nat.le_of_ble_eq_true rfl, Nat.le_of_ble_eq_true rfl⟩ (Nat.le_of_ble_eq_true rfl) xd_N_init_33 (fun v1 hz => ?_)
  subst hz
  refine aw_astG C 1 4 3 rfl rfl rfl rfl (aw_in_ok rfl) (w' := [(h, .inr (4, [.ref q1, .int 0, .int 0])), (q1, .inl (ids 4, 6, .inr (.inr (.inr (.inr (va_up (va_up (fun _ => none) 0 (some (v0 134))) 1 (some (v1 135))))))))] ++ cr_w ids 134 1 v0 ++ cr_w ids 135 1 v1) rfl xd_N_init_36 ?_
  refine aw_iinc (j := 0) (v := (2 : Int32)) (L' := [(1, .int (2 : Int32)), (0, .ref h)]) C xd_N_init_37 rfl (by decide) (by decide) rfl ?_
  refine aw_goto (tgt := 15) C xd_N_init_40 (by decide) ?_
  refine aw_iload_n C 0 xd_N_init_15 rfl rfl ?_
  refine aw_aload_n C 1 xd_N_init_16 rfl rfl ?_
  refine aw_getG C 0 rfl rfl (fun w h => List.mem_cons_of_mem _ (xi_N w h)) 0 (by decide) rfl (List.mem_cons_of_mem _ fl_N_11) xd_N_init_17 ?_
  refine aw_alenG (v := (6 : Int32)) C 1 4 rfl rfl rfl xd_N_init_20 ?_
  refine aw_icmp_ge (tgt := 43) C xd_N_init_21 (by decide) (fun c_0 => absurd c_0 (by decide)) (fun _ => ?_)
  refine aw_aload_n C 1 xd_N_init_24 rfl rfl ?_
  refine aw_getG C 0 rfl rfl (fun w h => List.mem_cons_of_mem _ (xi_N w h)) 0 (by decide) rfl (List.mem_cons_of_mem _ fl_N_11) xd_N_init_25 ?_
  refine aw_iload_n C 0 xd_N_init_28 rfl rfl ?_
  refine aw_new C (ci := 1) (fs := [.int 0, .int 0, .int 0, .int 0, .int 0]) (fun w h => List.mem_cons_of_mem _ (xi_F w h)) xk_F xo_F (List.mem_cons_of_mem _ cl_N_9) (List.mem_cons_of_mem _ ci_F) (List.mem_cons_of_mem _ wi_F) rfl (fun j hj => by rcases (show j = 0 ∨ j = 1 ∨ j = 2 ∨ j = 3 ∨ j = 4 by omega) with rfl | rfl | rfl | rfl | rfl <;> rfl) (Nat.le_of_ble_eq_true rfl) (Nat.le_of_ble_eq_true rfl) xd_N_init_29 (fun z => ?_)
  refine aw_dup C xd_N_init_32 rfl ?_
  refine aw_callIN C (xn_F_init 136 rfl z) rfl (gw_sub (gw_C xg_F_init)) (List.mem_cons_of_mem _ wi_F) (List.mem_of_getElem? (i := 4) rfl) (List.mem_cons_of_mem _ im_F_init) rfl na_F_init (rn_lt (by decide) (by decide)) ⟨Nat.le_of_ble_eq_true rfl, Nat.le_of_ble_eq_true rfl⟩ (Nat.le_of_ble_eq_true rfl) xd_N_init_33 (fun v2 hz => ?_)
  subst hz
  refine aw_astG C 1 4 4 rfl rfl rfl rfl (aw_in_ok rfl) (w' := [(h, .inr (4, [.ref q1, .int 0, .int 0])), (q1, .inl (ids 4, 6, .inr (.inr (.inr (.inr (va_up (va_up (va_up (fun _ => none) 0 (some (v0 134))) 1 (some (v1 135))) 2 (some (v2 136))))))))] ++ cr_w ids 134 1 v0 ++ cr_w ids 135 1 v1 ++ cr_w ids 136 1 v2) rfl xd_N_init_36 ?_
  refine aw_iinc (j := 0) (v := (3 : Int32)) (L' := [(1, .int (3 : Int32)), (0, .ref h)]) C xd_N_init_37 rfl (by decide) (by decide) rfl ?_
  refine aw_goto (tgt := 15) C xd_N_init_40 (by decide) ?_
  refine aw_iload_n C 0 xd_N_init_15 rfl rfl ?_
  refine aw_aload_n C 1 xd_N_init_16 rfl rfl ?_
  refine aw_getG C 0 rfl rfl (fun w h => List.mem_cons_of_mem _ (xi_N w h)) 0 (by decide) rfl (List.mem_cons_of_mem _ fl_N_11) xd_N_init_17 ?_
  refine aw_alenG (v := (6 : Int32)) C 1 4 rfl rfl rfl xd_N_init_20 ?_
  refine aw_icmp_ge (tgt := 43) C xd_N_init_21 (by decide) (fun c_0 => absurd c_0 (by decide)) (fun _ => ?_)
  refine aw_aload_n C 1 xd_N_init_24 rfl rfl ?_
  refine aw_getG C 0 rfl rfl (fun w h => List.mem_cons_of_mem _ (xi_N w h)) 0 (by decide) rfl (List.mem_cons_of_mem _ fl_N_11) xd_N_init_25 ?_
  refine aw_iload_n C 0 xd_N_init_28 rfl rfl ?_
  refine aw_new C (ci := 1) (fs := [.int 0, .int 0, .int 0, .int 0, .int 0]) (fun w h => List.mem_cons_of_mem _ (xi_F w h)) xk_F xo_F (List.mem_cons_of_mem _ cl_N_9) (List.mem_cons_of_mem _ ci_F) (List.mem_cons_of_mem _ wi_F) rfl (fun j hj => by rcases (show j = 0 ∨ j = 1 ∨ j = 2 ∨ j = 3 ∨ j = 4 by omega) with rfl | rfl | rfl | rfl | rfl <;> rfl) (Nat.le_of_ble_eq_true rfl) (Nat.le_of_ble_eq_true rfl) xd_N_init_29 (fun z => ?_)
  refine aw_dup C xd_N_init_32 rfl ?_
  refine aw_callIN C (xn_F_init 137 rfl z) rfl (gw_sub (gw_C xg_F_init)) (List.mem_cons_of_mem _ wi_F) (List.mem_of_getElem? (i := 4) rfl) (List.mem_cons_of_mem _ im_F_init) rfl na_F_init (rn_lt (by decide) (by decide)) ⟨Nat.le_of_ble_eq_true rfl, Nat.le_of_ble_eq_true rfl⟩ (Nat.le_of_ble_eq_true rfl) xd_N_init_33 (fun v3 hz => ?_)
  subst hz
  refine aw_astG C 1 4 5 rfl rfl rfl rfl (aw_in_ok rfl) (w' := [(h, .inr (4, [.ref q1, .int 0, .int 0])), (q1, .inl (ids 4, 6, .inr (.inr (.inr (.inr (va_up (va_up (va_up (va_up (fun _ => none) 0 (some (v0 134))) 1 (some (v1 135))) 2 (some (v2 136))) 3 (some (v3 137))))))))] ++ cr_w ids 134 1 v0 ++ cr_w ids 135 1 v1 ++ cr_w ids 136 1 v2 ++ cr_w ids 137 1 v3) rfl xd_N_init_36 ?_
  refine aw_iinc (j := 0) (v := (4 : Int32)) (L' := [(1, .int (4 : Int32)), (0, .ref h)]) C xd_N_init_37 rfl (by decide) (by decide) rfl ?_
  refine aw_goto (tgt := 15) C xd_N_init_40 (by decide) ?_
  refine aw_iload_n C 0 xd_N_init_15 rfl rfl ?_
  refine aw_aload_n C 1 xd_N_init_16 rfl rfl ?_
  refine aw_getG C 0 rfl rfl (fun w h => List.mem_cons_of_mem _ (xi_N w h)) 0 (by decide) rfl (List.mem_cons_of_mem _ fl_N_11) xd_N_init_17 ?_
  refine aw_alenG (v := (6 : Int32)) C 1 4 rfl rfl rfl xd_N_init_20 ?_
  refine aw_icmp_ge (tgt := 43) C xd_N_init_21 (by decide) (fun c_0 => absurd c_0 (by decide)) (fun _ => ?_)
  refine aw_aload_n C 1 xd_N_init_24 rfl rfl ?_
  refine aw_getG C 0 rfl rfl (fun w h => List.mem_cons_of_mem _ (xi_N w h)) 0 (by decide) rfl (List.mem_cons_of_mem _ fl_N_11) xd_N_init_25 ?_
  refine aw_iload_n C 0 xd_N_init_28 rfl rfl ?_
  refine aw_new C (ci := 1) (fs := [.int 0, .int 0, .int 0, .int 0, .int 0]) (fun w h => List.mem_cons_of_mem _ (xi_F w h)) xk_F xo_F (List.mem_cons_of_mem _ cl_N_9) (List.mem_cons_of_mem _ ci_F) (List.mem_cons_of_mem _ wi_F) rfl (fun j hj => by rcases (show j = 0 ∨ j = 1 ∨ j = 2 ∨ j = 3 ∨ j = 4 by omega) with rfl | rfl | rfl | rfl | rfl <;> rfl) (Nat.le_of_ble_eq_true rfl) (Nat.le_of_ble_eq_true rfl) xd_N_init_29 (fun z => ?_)
  refine aw_dup C xd_N_init_32 rfl ?_
  refine aw_callIN C (xn_F_init 138 rfl z) rfl (gw_sub (gw_C xg_F_init)) (List.mem_cons_of_mem _ wi_F) (List.mem_of_getElem? (i := 4) rfl) (List.mem_cons_of_mem _ im_F_init) rfl na_F_init (rn_lt (by decide) (by decide)) ⟨Nat.le_of_ble_eq_true rfl, Nat.le_of_ble_eq_true rfl⟩ (Nat.le_of_ble_eq_true rfl) xd_N_init_33 (fun v4 hz => ?_)
  subst hz
  refine aw_astG C 1 4 6 rfl rfl rfl rfl (aw_in_ok rfl) (w' := [(h, .inr (4, [.ref q1, .int 0, .int 0])), (q1, .inl (ids 4, 6, .inr (.inr (.inr (.inr (va_up (va_up (va_up (va_up (va_up (fun _ => none) 0 (some (v0 134))) 1 (some (v1 135))) 2 (some (v2 136))) 3 (some (v3 137))) 4 (some (v4 138))))))))] ++ cr_w ids 134 1 v0 ++ cr_w ids 135 1 v1 ++ cr_w ids 136 1 v2 ++ cr_w ids 137 1 v3 ++ cr_w ids 138 1 v4) rfl xd_N_init_36 ?_
  refine aw_iinc (j := 0) (v := (5 : Int32)) (L' := [(1, .int (5 : Int32)), (0, .ref h)]) C xd_N_init_37 rfl (by decide) (by decide) rfl ?_
  refine aw_goto (tgt := 15) C xd_N_init_40 (by decide) ?_
  refine aw_iload_n C 0 xd_N_init_15 rfl rfl ?_
  refine aw_aload_n C 1 xd_N_init_16 rfl rfl ?_
  refine aw_getG C 0 rfl rfl (fun w h => List.mem_cons_of_mem _ (xi_N w h)) 0 (by decide) rfl (List.mem_cons_of_mem _ fl_N_11) xd_N_init_17 ?_
  refine aw_alenG (v := (6 : Int32)) C 1 4 rfl rfl rfl xd_N_init_20 ?_
  refine aw_icmp_ge (tgt := 43) C xd_N_init_21 (by decide) (fun c_0 => absurd c_0 (by decide)) (fun _ => ?_)
  refine aw_aload_n C 1 xd_N_init_24 rfl rfl ?_
  refine aw_getG C 0 rfl rfl (fun w h => List.mem_cons_of_mem _ (xi_N w h)) 0 (by decide) rfl (List.mem_cons_of_mem _ fl_N_11) xd_N_init_25 ?_
  refine aw_iload_n C 0 xd_N_init_28 rfl rfl ?_
  refine aw_new C (ci := 1) (fs := [.int 0, .int 0, .int 0, .int 0, .int 0]) (fun w h => List.mem_cons_of_mem _ (xi_F w h)) xk_F xo_F (List.mem_cons_of_mem _ cl_N_9) (List.mem_cons_of_mem _ ci_F) (List.mem_cons_of_mem _ wi_F) rfl (fun j hj => by rcases (show j = 0 ∨ j = 1 ∨ j = 2 ∨ j = 3 ∨ j = 4 by omega) with rfl | rfl | rfl | rfl | rfl <;> rfl) (Nat.le_of_ble_eq_true rfl) (Nat.le_of_ble_eq_true rfl) xd_N_init_29 (fun z => ?_)
  refine aw_dup C xd_N_init_32 rfl ?_
  refine aw_callIN C (xn_F_init 139 rfl z) rfl (gw_sub (gw_C xg_F_init)) (List.mem_cons_of_mem _ wi_F) (List.mem_of_getElem? (i := 4) rfl) (List.mem_cons_of_mem _ im_F_init) rfl na_F_init (rn_lt (by decide) (by decide)) ⟨Nat.le_of_ble_eq_true rfl, Nat.le_of_ble_eq_true rfl⟩ (Nat.le_of_ble_eq_true rfl) xd_N_init_33 (fun v5 hz => ?_)
  subst hz
  refine aw_astG C 1 4 7 rfl rfl rfl rfl (aw_in_ok rfl) (w' := [(h, .inr (4, [.ref q1, .int 0, .int 0])), (q1, .inl (ids 4, 6, .inr (.inr (.inr (.inr (va_up (va_up (va_up (va_up (va_up (va_up (fun _ => none) 0 (some (v0 134))) 1 (some (v1 135))) 2 (some (v2 136))) 3 (some (v3 137))) 4 (some (v4 138))) 5 (some (v5 139))))))))] ++ cr_w ids 134 1 v0 ++ cr_w ids 135 1 v1 ++ cr_w ids 136 1 v2 ++ cr_w ids 137 1 v3 ++ cr_w ids 138 1 v4 ++ cr_w ids 139 1 v5) rfl xd_N_init_36 ?_
  refine aw_iinc (j := 0) (v := (6 : Int32)) (L' := [(1, .int (6 : Int32)), (0, .ref h)]) C xd_N_init_37 rfl (by decide) (by decide) rfl ?_
  refine aw_goto (tgt := 15) C xd_N_init_40 (by decide) ?_
  refine aw_iload_n C 0 xd_N_init_15 rfl rfl ?_
  refine aw_aload_n C 1 xd_N_init_16 rfl rfl ?_
  refine aw_getG C 0 rfl rfl (fun w h => List.mem_cons_of_mem _ (xi_N w h)) 0 (by decide) rfl (List.mem_cons_of_mem _ fl_N_11) xd_N_init_17 ?_
  refine aw_alenG (v := (6 : Int32)) C 1 4 rfl rfl rfl xd_N_init_20 ?_
  refine aw_icmp_ge (tgt := 43) C xd_N_init_21 (by decide) (fun _ => ?_) (fun c_0 => absurd (by decide) c_0)
  obtain ⟨u, hu⟩ : ∃ u : Nat → Nat, u = (fun k => if k = 132 then h else if k = 133 then q1 else if k < 135 then v0 k else if k < 136 then v1 k else if k < 137 then v2 k else if k < 138 then v3 k else if k < 139 then v4 k else v5 k) := ⟨_, rfl⟩
  have hg0 : cr_w ids 134 1 v0 = cr_w ids 134 1 u := cg_F (rfl : kd_k 134 = 14) (fun j h1 h2 => by rw [hu]; show v0 j = ite _ _ _; rw [if_neg (by omega), if_neg (by omega), if_pos (by omega)])
  have hg1 : cr_w ids 135 1 v1 = cr_w ids 135 1 u := cg_F (rfl : kd_k 135 = 14) (fun j h1 h2 => by rw [hu]; show v1 j = ite _ _ _; rw [if_neg (by omega), if_neg (by omega), if_neg (by omega), if_pos (by omega)])
  have hg2 : cr_w ids 136 1 v2 = cr_w ids 136 1 u := cg_F (rfl : kd_k 136 = 14) (fun j h1 h2 => by rw [hu]; show v2 j = ite _ _ _; rw [if_neg (by omega), if_neg (by omega), if_neg (by omega), if_neg (by omega), if_pos (by omega)])
  have hg3 : cr_w ids 137 1 v3 = cr_w ids 137 1 u := cg_F (rfl : kd_k 137 = 14) (fun j h1 h2 => by rw [hu]; show v3 j = ite _ _ _; rw [if_neg (by omega), if_neg (by omega), if_neg (by omega), if_neg (by omega), if_neg (by omega), if_pos (by omega)])
  have hg4 : cr_w ids 138 1 v4 = cr_w ids 138 1 u := cg_F (rfl : kd_k 138 = 14) (fun j h1 h2 => by rw [hu]; show v4 j = ite _ _ _; rw [if_neg (by omega), if_neg (by omega), if_neg (by omega), if_neg (by omega), if_neg (by omega), if_neg (by omega), if_pos (by omega)])
  have hg5 : cr_w ids 139 1 v5 = cr_w ids 139 1 u := cg_F (rfl : kd_k 139 = 14) (fun j h1 h2 => by rw [hu]; show v5 j = ite _ _ _; rw [if_neg (by omega), if_neg (by omega), if_neg (by omega), if_neg (by omega), if_neg (by omega), if_neg (by omega), if_neg (by omega)])
  have hq0 : v0 134 = u 134 := by rw [hu]; rfl
  have hq1 : v1 135 = u 135 := by rw [hu]; rfl
  have hq2 : v2 136 = u 136 := by rw [hu]; rfl
  have hq3 : v3 137 = u 137 := by rw [hu]; rfl
  have hq4 : v4 138 = u 138 := by rw [hu]; rfl
  have hq5 : v5 139 = u 139 := by rw [hu]; rfl
  have hfg : ∀ k, k < 6 → (va_up (va_up (va_up (va_up (va_up (va_up (fun _ => none) 0 (some (v0 134))) 1 (some (v1 135))) 2 (some (v2 136))) 3 (some (v3 137))) 4 (some (v4 138))) 5 (some (v5 139))) k = (fun k => if k < 6 then some (u (133 + 1 + k)) else none) k := fun k hk => match k, hk with
    | 0, _ => congrArg some hq0
    | 1, _ => congrArg some hq1
    | 2, _ => congrArg some hq2
    | 3, _ => congrArg some hq3
    | 4, _ => congrArg some hq4
    | 5, _ => congrArg some hq5
    | k + 6, hk => absurd hk (by omega)
  refine aw_arr C 1 (g := fun k => if k < 6 then some (u (133 + 1 + k)) else none) rfl hfg rfl ?_
  refine aw_vretN C u (by rw [hu]; rfl) ?_ xd_N_init_43
  show cr_w ids 132 8 u = _
  rw [hg0, hg1, hg2, hg3, hg4, hg5]
  rw [show h = u 132 from (by rw [hu]; rfl)]
  rw [show q1 = u 133 from (by rw [hu]; rfl)]
  rfl

theorem cg_L {ids : Nat → ClassId} {u v : Nat → Nat} (h : ∀ j, 7 ≤ j → j < 63 → u j = v j) : cr_w ids 7 56 u = cr_w ids 7 56 v := by
  show [(u 7, .inr (3, [.ref (u 8), .int 0, .int 0])), (u 8, .inl (ids 2, 6, .inr (.inr (.inr (.inr (fun i => if i < 6 then some (u (8 + 1 + 9 * i)) else none))))))] ++ cr_w ids 9 9 u ++ cr_w ids 18 9 u ++ cr_w ids 27 9 u ++ cr_w ids 36 9 u ++ cr_w ids 45 9 u ++ cr_w ids 54 9 u = [(v 7, .inr (3, [.ref (v 8), .int 0, .int 0])), (v 8, .inl (ids 2, 6, .inr (.inr (.inr (.inr (fun i => if i < 6 then some (v (8 + 1 + 9 * i)) else none))))))] ++ cr_w ids 9 9 v ++ cr_w ids 18 9 v ++ cr_w ids 27 9 v ++ cr_w ids 36 9 v ++ cr_w ids 45 9 v ++ cr_w ids 54 9 v
  have hf : (fun i => if i < 6 then some (u (8 + 1 + 9 * i)) else none) = (fun i => if i < 6 then some (v (8 + 1 + 9 * i)) else none) := by
    funext i
    by_cases hi : i < 6
    · rw [if_pos hi, if_pos hi, h (8 + 1 + 9 * i) (by omega) (by omega)]
    · rw [if_neg hi, if_neg hi]
  rw [hf, h 7 (by omega) (by omega), h 8 (by omega) (by omega), cg_U (v := v) (rfl : kd_k 9 = 6) (fun j h1 h2 => h j (by omega) (by omega)), cg_U (v := v) (rfl : kd_k 18 = 6) (fun j h1 h2 => h j (by omega) (by omega)), cg_U (v := v) (rfl : kd_k 27 = 6) (fun j h1 h2 => h j (by omega) (by omega)), cg_U (v := v) (rfl : kd_k 36 = 6) (fun j h1 h2 => h j (by omega) (by omega)), cg_U (v := v) (rfl : kd_k 45 = 6) (fun j h1 h2 => h j (by omega) (by omega)), cg_U (v := v) (rfl : kd_k 54 = 6) (fun j h1 h2 => h j (by omega) (by omega))]
theorem cg_M {ids : Nat → ClassId} {u v : Nat → Nat} (h : ∀ j, 63 ≤ j → j < 132 → u j = v j) : cr_w ids 63 69 u = cr_w ids 63 69 v := by
  show [(u 63, .inr (5, [.ref (u 64), .ref (u 65)])), (u 64, .inl (ids 3, 6, .inr (.inr (.inr (.inr (fun i => if i < 6 then some (u (64 + 2 + 11 * i)) else none)))))), (u 65, .inl (ids 1, 6, .inl (fun _ => 0)))] ++ cr_w ids 66 11 u ++ cr_w ids 77 11 u ++ cr_w ids 88 11 u ++ cr_w ids 99 11 u ++ cr_w ids 110 11 u ++ cr_w ids 121 11 u = [(v 63, .inr (5, [.ref (v 64), .ref (v 65)])), (v 64, .inl (ids 3, 6, .inr (.inr (.inr (.inr (fun i => if i < 6 then some (v (64 + 2 + 11 * i)) else none)))))), (v 65, .inl (ids 1, 6, .inl (fun _ => 0)))] ++ cr_w ids 66 11 v ++ cr_w ids 77 11 v ++ cr_w ids 88 11 v ++ cr_w ids 99 11 v ++ cr_w ids 110 11 v ++ cr_w ids 121 11 v
  have hf : (fun i => if i < 6 then some (u (64 + 2 + 11 * i)) else none) = (fun i => if i < 6 then some (v (64 + 2 + 11 * i)) else none) := by
    funext i
    by_cases hi : i < 6
    · rw [if_pos hi, if_pos hi, h (64 + 2 + 11 * i) (by omega) (by omega)]
    · rw [if_neg hi, if_neg hi]
  rw [hf, h 63 (by omega) (by omega), h 64 (by omega) (by omega), h 65 (by omega) (by omega), cg_I (v := v) (rfl : kd_k 66 = 11) (fun j h1 h2 => h j (by omega) (by omega)), cg_I (v := v) (rfl : kd_k 77 = 11) (fun j h1 h2 => h j (by omega) (by omega)), cg_I (v := v) (rfl : kd_k 88 = 11) (fun j h1 h2 => h j (by omega) (by omega)), cg_I (v := v) (rfl : kd_k 99 = 11) (fun j h1 h2 => h j (by omega) (by omega)), cg_I (v := v) (rfl : kd_k 110 = 11) (fun j h1 h2 => h j (by omega) (by omega)), cg_I (v := v) (rfl : kd_k 121 = 11) (fun j h1 h2 => h j (by omega) (by omega))]
theorem cg_N {ids : Nat → ClassId} {u v : Nat → Nat} (h : ∀ j, 132 ≤ j → j < 140 → u j = v j) : cr_w ids 132 8 u = cr_w ids 132 8 v := by
  show [(u 132, .inr (4, [.ref (u 133), .int 0, .int 0])), (u 133, .inl (ids 4, 6, .inr (.inr (.inr (.inr (fun i => if i < 6 then some (u (133 + 1 + i)) else none))))))] ++ cr_w ids 134 1 u ++ cr_w ids 135 1 u ++ cr_w ids 136 1 u ++ cr_w ids 137 1 u ++ cr_w ids 138 1 u ++ cr_w ids 139 1 u = [(v 132, .inr (4, [.ref (v 133), .int 0, .int 0])), (v 133, .inl (ids 4, 6, .inr (.inr (.inr (.inr (fun i => if i < 6 then some (v (133 + 1 + i)) else none))))))] ++ cr_w ids 134 1 v ++ cr_w ids 135 1 v ++ cr_w ids 136 1 v ++ cr_w ids 137 1 v ++ cr_w ids 138 1 v ++ cr_w ids 139 1 v
  have hf : (fun i => if i < 6 then some (u (133 + 1 + i)) else none) = (fun i => if i < 6 then some (v (133 + 1 + i)) else none) := by
    funext i
    by_cases hi : i < 6
    · rw [if_pos hi, if_pos hi, h (133 + 1 + i) (by omega) (by omega)]
    · rw [if_neg hi, if_neg hi]
  rw [hf, h 132 (by omega) (by omega), h 133 (by omega) (by omega), cg_F (v := v) (rfl : kd_k 134 = 14) (fun j h1 h2 => h j (by omega) (by omega)), cg_F (v := v) (rfl : kd_k 135 = 14) (fun j h1 h2 => h j (by omega) (by omega)), cg_F (v := v) (rfl : kd_k 136 = 14) (fun j h1 h2 => h j (by omega) (by omega)), cg_F (v := v) (rfl : kd_k 137 = 14) (fun j h1 h2 => h j (by omega) (by omega)), cg_F (v := v) (rfl : kd_k 138 = 14) (fun j h1 h2 => h j (by omega) (by omega)), cg_F (v := v) (rfl : kd_k 139 = 14) (fun j h1 h2 => h j (by omega) (by omega))]
