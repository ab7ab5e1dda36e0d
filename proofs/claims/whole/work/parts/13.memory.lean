theorem xd_M_has_0 : decode xb_M_has 0 = .ok (.iload_n 1, 1) := by decide +kernel
theorem xd_M_has_1 : decode xb_M_has 1 = .ok (.invokestatic 22, 3) := by decide +kernel
theorem xd_M_has_4 : decode xb_M_has 4 = .ok (.ifCond .eq 22, 3) := by decide +kernel
theorem xd_M_has_7 : decode xb_M_has 7 = .ok (.aload_n 0, 1) := by decide +kernel
theorem xd_M_has_8 : decode xb_M_has 8 = .ok (.getfield 11, 3) := by decide +kernel
theorem xd_M_has_11 : decode xb_M_has 11 = .ok (.iload_n 1, 1) := by decide +kernel
theorem xd_M_has_12 : decode xb_M_has 12 = .ok (.aaload, 1) := by decide +kernel
theorem xd_M_has_13 : decode xb_M_has 13 = .ok (.getfield 26, 3) := by decide +kernel
theorem xd_M_has_16 : decode xb_M_has 16 = .ok (.getfield 30, 3) := by decide +kernel
theorem xd_M_has_19 : decode xb_M_has 19 = .ok (.ifCond .eq 7, 3) := by decide +kernel
theorem xd_M_has_22 : decode xb_M_has 22 = .ok (.iconst 1, 1) := by decide +kernel
theorem xd_M_has_23 : decode xb_M_has 23 = .ok (.goto 4, 3) := by decide +kernel
theorem xd_M_has_26 : decode xb_M_has 26 = .ok (.iconst 0, 1) := by decide +kernel
theorem xd_M_has_27 : decode xb_M_has 27 = .ok (.ireturn, 1) := by decide +kernel
theorem xd_M_held_0 : decode xb_M_held 0 = .ok (.iconst 0, 1) := by decide +kernel
theorem xd_M_held_1 : decode xb_M_held 1 = .ok (.istore_n 1, 1) := by decide +kernel
theorem xd_M_held_2 : decode xb_M_held 2 = .ok (.iconst 0, 1) := by decide +kernel
theorem xd_M_held_3 : decode xb_M_held 3 = .ok (.istore_n 2, 1) := by decide +kernel
theorem xd_M_held_4 : decode xb_M_held 4 = .ok (.iload_n 2, 1) := by decide +kernel
theorem xd_M_held_5 : decode xb_M_held 5 = .ok (.bipush 6, 2) := by decide +kernel
theorem xd_M_held_7 : decode xb_M_held 7 = .ok (.if_icmp .ge 25, 3) := by decide +kernel
theorem xd_M_held_10 : decode xb_M_held 10 = .ok (.iload_n 1, 1) := by decide +kernel
theorem xd_M_held_11 : decode xb_M_held 11 = .ok (.aload_n 0, 1) := by decide +kernel
theorem xd_M_held_12 : decode xb_M_held 12 = .ok (.iload_n 2, 1) := by decide +kernel
theorem xd_M_held_13 : decode xb_M_held 13 = .ok (.invokevirtual 36, 3) := by decide +kernel
theorem xd_M_held_16 : decode xb_M_held 16 = .ok (.ifCond .eq 7, 3) := by decide +kernel
theorem xd_M_held_19 : decode xb_M_held 19 = .ok (.iconst 1, 1) := by decide +kernel
theorem xd_M_held_20 : decode xb_M_held 20 = .ok (.goto 4, 3) := by decide +kernel
theorem xd_M_held_23 : decode xb_M_held 23 = .ok (.iconst 0, 1) := by decide +kernel
theorem xd_M_held_24 : decode xb_M_held 24 = .ok (.iadd, 1) := by decide +kernel
theorem xd_M_held_25 : decode xb_M_held 25 = .ok (.istore_n 1, 1) := by decide +kernel
theorem xd_M_held_26 : decode xb_M_held 26 = .ok (.iinc 2 1, 3) := by decide +kernel
theorem xd_M_held_29 : decode xb_M_held 29 = .ok (.goto (-25), 3) := by decide +kernel
theorem xd_M_held_32 : decode xb_M_held 32 = .ok (.iload_n 1, 1) := by decide +kernel
theorem xd_M_held_33 : decode xb_M_held 33 = .ok (.ireturn, 1) := by decide +kernel
theorem xd_M_size_0 : decode xb_M_size 0 = .ok (.iconst 0, 1) := by decide +kernel
theorem xd_M_size_1 : decode xb_M_size 1 = .ok (.istore_n 1, 1) := by decide +kernel
theorem xd_M_size_2 : decode xb_M_size 2 = .ok (.iconst 0, 1) := by decide +kernel
theorem xd_M_size_3 : decode xb_M_size 3 = .ok (.istore_n 2, 1) := by decide +kernel
theorem xd_M_size_4 : decode xb_M_size 4 = .ok (.iload_n 2, 1) := by decide +kernel
theorem xd_M_size_5 : decode xb_M_size 5 = .ok (.bipush 6, 2) := by decide +kernel
theorem xd_M_size_7 : decode xb_M_size 7 = .ok (.if_icmp .ge 39, 3) := by decide +kernel
theorem xd_M_size_10 : decode xb_M_size 10 = .ok (.iload_n 1, 1) := by decide +kernel
theorem xd_M_size_11 : decode xb_M_size 11 = .ok (.aload_n 0, 1) := by decide +kernel
theorem xd_M_size_12 : decode xb_M_size 12 = .ok (.iload_n 2, 1) := by decide +kernel
theorem xd_M_size_13 : decode xb_M_size 13 = .ok (.invokevirtual 36, 3) := by decide +kernel
theorem xd_M_size_16 : decode xb_M_size 16 = .ok (.ifCond .eq 21, 3) := by decide +kernel
theorem xd_M_size_19 : decode xb_M_size 19 = .ok (.aload_n 0, 1) := by decide +kernel
theorem xd_M_size_20 : decode xb_M_size 20 = .ok (.getfield 11, 3) := by decide +kernel
theorem xd_M_size_23 : decode xb_M_size 23 = .ok (.iload_n 2, 1) := by decide +kernel
theorem xd_M_size_24 : decode xb_M_size 24 = .ok (.aaload, 1) := by decide +kernel
theorem xd_M_size_25 : decode xb_M_size 25 = .ok (.getfield 26, 3) := by decide +kernel
theorem xd_M_size_28 : decode xb_M_size 28 = .ok (.getfield 39, 3) := by decide +kernel
theorem xd_M_size_31 : decode xb_M_size 31 = .ok (.invokevirtual 43, 3) := by decide +kernel
theorem xd_M_size_34 : decode xb_M_size 34 = .ok (.goto 4, 3) := by decide +kernel
theorem xd_M_size_37 : decode xb_M_size 37 = .ok (.iconst 0, 1) := by decide +kernel
theorem xd_M_size_38 : decode xb_M_size 38 = .ok (.iadd, 1) := by decide +kernel
theorem xd_M_size_39 : decode xb_M_size 39 = .ok (.istore_n 1, 1) := by decide +kernel
theorem xd_M_size_40 : decode xb_M_size 40 = .ok (.iinc 2 1, 3) := by decide +kernel
theorem xd_M_size_43 : decode xb_M_size 43 = .ok (.goto (-39), 3) := by decide +kernel
theorem xd_M_size_46 : decode xb_M_size 46 = .ok (.iload_n 1, 1) := by decide +kernel
theorem xd_M_size_47 : decode xb_M_size 47 = .ok (.ireturn, 1) := by decide +kernel
theorem xd_M_isImported_0 : decode xb_M_isImported 0 = .ok (.iconst 0, 1) := by decide +kernel
theorem xd_M_isImported_1 : decode xb_M_isImported 1 = .ok (.istore_n 2, 1) := by decide +kernel
theorem xd_M_isImported_2 : decode xb_M_isImported 2 = .ok (.iload_n 2, 1) := by decide +kernel
theorem xd_M_isImported_3 : decode xb_M_isImported 3 = .ok (.bipush 6, 2) := by decide +kernel
theorem xd_M_isImported_5 : decode xb_M_isImported 5 = .ok (.if_icmp .ge 35, 3) := by decide +kernel
theorem xd_M_isImported_8 : decode xb_M_isImported 8 = .ok (.aload_n 0, 1) := by decide +kernel
theorem xd_M_isImported_9 : decode xb_M_isImported 9 = .ok (.iload_n 2, 1) := by decide +kernel
theorem xd_M_isImported_10 : decode xb_M_isImported 10 = .ok (.invokevirtual 36, 3) := by decide +kernel
theorem xd_M_isImported_13 : decode xb_M_isImported 13 = .ok (.ifCond .eq 21, 3) := by decide +kernel
theorem xd_M_isImported_16 : decode xb_M_isImported 16 = .ok (.aload_n 0, 1) := by decide +kernel
theorem xd_M_isImported_17 : decode xb_M_isImported 17 = .ok (.getfield 11, 3) := by decide +kernel
theorem xd_M_isImported_20 : decode xb_M_isImported 20 = .ok (.iload_n 2, 1) := by decide +kernel
theorem xd_M_isImported_21 : decode xb_M_isImported 21 = .ok (.aaload, 1) := by decide +kernel
theorem xd_M_isImported_22 : decode xb_M_isImported 22 = .ok (.getfield 26, 3) := by decide +kernel
theorem xd_M_isImported_25 : decode xb_M_isImported 25 = .ok (.iload_n 1, 1) := by decide +kernel
theorem xd_M_isImported_26 : decode xb_M_isImported 26 = .ok (.invokevirtual 49, 3) := by decide +kernel
theorem xd_M_isImported_29 : decode xb_M_isImported 29 = .ok (.ifCond .eq 5, 3) := by decide +kernel
theorem xd_M_isImported_32 : decode xb_M_isImported 32 = .ok (.iconst 1, 1) := by decide +kernel
theorem xd_M_isImported_33 : decode xb_M_isImported 33 = .ok (.ireturn, 1) := by decide +kernel
theorem xd_M_isImported_34 : decode xb_M_isImported 34 = .ok (.iinc 2 1, 3) := by decide +kernel
theorem xd_M_isImported_37 : decode xb_M_isImported 37 = .ok (.goto (-35), 3) := by decide +kernel
theorem xd_M_isImported_40 : decode xb_M_isImported 40 = .ok (.iconst 0, 1) := by decide +kernel
theorem xd_M_isImported_41 : decode xb_M_isImported 41 = .ok (.ireturn, 1) := by decide +kernel
theorem xd_M_argumentsOf_0 : decode xb_M_argumentsOf 0 = .ok (.aload_n 0, 1) := by decide +kernel
theorem xd_M_argumentsOf_1 : decode xb_M_argumentsOf 1 = .ok (.iload_n 1, 1) := by decide +kernel
theorem xd_M_argumentsOf_2 : decode xb_M_argumentsOf 2 = .ok (.invokevirtual 36, 3) := by decide +kernel
theorem xd_M_argumentsOf_5 : decode xb_M_argumentsOf 5 = .ok (.ifCond .eq 22, 3) := by decide +kernel
theorem xd_M_argumentsOf_8 : decode xb_M_argumentsOf 8 = .ok (.aload_n 0, 1) := by decide +kernel
theorem xd_M_argumentsOf_9 : decode xb_M_argumentsOf 9 = .ok (.getfield 11, 3) := by decide +kernel
theorem xd_M_argumentsOf_12 : decode xb_M_argumentsOf 12 = .ok (.iload_n 1, 1) := by decide +kernel
theorem xd_M_argumentsOf_13 : decode xb_M_argumentsOf 13 = .ok (.aaload, 1) := by decide +kernel
theorem xd_M_argumentsOf_14 : decode xb_M_argumentsOf 14 = .ok (.getfield 26, 3) := by decide +kernel
theorem xd_M_argumentsOf_17 : decode xb_M_argumentsOf 17 = .ok (.getfield 39, 3) := by decide +kernel
theorem xd_M_argumentsOf_20 : decode xb_M_argumentsOf 20 = .ok (.iload_n 2, 1) := by decide +kernel
theorem xd_M_argumentsOf_21 : decode xb_M_argumentsOf 21 = .ok (.invokevirtual 52, 3) := by decide +kernel
theorem xd_M_argumentsOf_24 : decode xb_M_argumentsOf 24 = .ok (.goto 4, 3) := by decide +kernel
theorem xd_M_argumentsOf_27 : decode xb_M_argumentsOf 27 = .ok (.iconst (-1), 1) := by decide +kernel
theorem xd_M_argumentsOf_28 : decode xb_M_argumentsOf 28 = .ok (.ireturn, 1) := by decide +kernel
theorem xd_M_valueOf_0 : decode xb_M_valueOf 0 = .ok (.aload_n 0, 1) := by decide +kernel
theorem xd_M_valueOf_1 : decode xb_M_valueOf 1 = .ok (.iload_n 1, 1) := by decide +kernel
theorem xd_M_valueOf_2 : decode xb_M_valueOf 2 = .ok (.invokevirtual 36, 3) := by decide +kernel
theorem xd_M_valueOf_5 : decode xb_M_valueOf 5 = .ok (.ifCond .eq 22, 3) := by decide +kernel
theorem xd_M_valueOf_8 : decode xb_M_valueOf 8 = .ok (.aload_n 0, 1) := by decide +kernel
theorem xd_M_valueOf_9 : decode xb_M_valueOf 9 = .ok (.getfield 11, 3) := by decide +kernel
theorem xd_M_valueOf_12 : decode xb_M_valueOf 12 = .ok (.iload_n 1, 1) := by decide +kernel
theorem xd_M_valueOf_13 : decode xb_M_valueOf 13 = .ok (.aaload, 1) := by decide +kernel
theorem xd_M_valueOf_14 : decode xb_M_valueOf 14 = .ok (.getfield 26, 3) := by decide +kernel
theorem xd_M_valueOf_17 : decode xb_M_valueOf 17 = .ok (.getfield 39, 3) := by decide +kernel
theorem xd_M_valueOf_20 : decode xb_M_valueOf 20 = .ok (.iload_n 2, 1) := by decide +kernel
theorem xd_M_valueOf_21 : decode xb_M_valueOf 21 = .ok (.invokevirtual 56, 3) := by decide +kernel
theorem xd_M_valueOf_24 : decode xb_M_valueOf 24 = .ok (.ifCond .ne 5, 3) := by decide +kernel
theorem xd_M_valueOf_27 : decode xb_M_valueOf 27 = .ok (.iconst 0, 1) := by decide +kernel
theorem xd_M_valueOf_28 : decode xb_M_valueOf 28 = .ok (.ireturn, 1) := by decide +kernel
theorem xd_M_valueOf_29 : decode xb_M_valueOf 29 = .ok (.aload_n 0, 1) := by decide +kernel
theorem xd_M_valueOf_30 : decode xb_M_valueOf 30 = .ok (.getfield 11, 3) := by decide +kernel
theorem xd_M_valueOf_33 : decode xb_M_valueOf 33 = .ok (.iload_n 1, 1) := by decide +kernel
theorem xd_M_valueOf_34 : decode xb_M_valueOf 34 = .ok (.aaload, 1) := by decide +kernel
theorem xd_M_valueOf_35 : decode xb_M_valueOf 35 = .ok (.getfield 59, 3) := by decide +kernel
theorem xd_M_valueOf_38 : decode xb_M_valueOf 38 = .ok (.iload_n 2, 1) := by decide +kernel
theorem xd_M_valueOf_39 : decode xb_M_valueOf 39 = .ok (.iaload, 1) := by decide +kernel
theorem xd_M_valueOf_40 : decode xb_M_valueOf 40 = .ok (.ireturn, 1) := by decide +kernel
theorem xd_M_setValue_0 : decode xb_M_setValue 0 = .ok (.aload_n 0, 1) := by decide +kernel
theorem xd_M_setValue_1 : decode xb_M_setValue 1 = .ok (.iload_n 1, 1) := by decide +kernel
theorem xd_M_setValue_2 : decode xb_M_setValue 2 = .ok (.invokevirtual 36, 3) := by decide +kernel
theorem xd_M_setValue_5 : decode xb_M_setValue 5 = .ok (.ifCond .eq 34, 3) := by decide +kernel
theorem xd_M_setValue_8 : decode xb_M_setValue 8 = .ok (.aload_n 0, 1) := by decide +kernel
theorem xd_M_setValue_9 : decode xb_M_setValue 9 = .ok (.getfield 11, 3) := by decide +kernel
theorem xd_M_setValue_12 : decode xb_M_setValue 12 = .ok (.iload_n 1, 1) := by decide +kernel
theorem xd_M_setValue_13 : decode xb_M_setValue 13 = .ok (.aaload, 1) := by decide +kernel
theorem xd_M_setValue_14 : decode xb_M_setValue 14 = .ok (.getfield 26, 3) := by decide +kernel
theorem xd_M_setValue_17 : decode xb_M_setValue 17 = .ok (.getfield 39, 3) := by decide +kernel
theorem xd_M_setValue_20 : decode xb_M_setValue 20 = .ok (.iload_n 2, 1) := by decide +kernel
theorem xd_M_setValue_21 : decode xb_M_setValue 21 = .ok (.invokevirtual 56, 3) := by decide +kernel
theorem xd_M_setValue_24 : decode xb_M_setValue 24 = .ok (.ifCond .eq 15, 3) := by decide +kernel
theorem xd_M_setValue_27 : decode xb_M_setValue 27 = .ok (.aload_n 0, 1) := by decide +kernel
theorem xd_M_setValue_28 : decode xb_M_setValue 28 = .ok (.getfield 11, 3) := by decide +kernel
theorem xd_M_setValue_31 : decode xb_M_setValue 31 = .ok (.iload_n 1, 1) := by decide +kernel
theorem xd_M_setValue_32 : decode xb_M_setValue 32 = .ok (.aaload, 1) := by decide +kernel
theorem xd_M_setValue_33 : decode xb_M_setValue 33 = .ok (.getfield 59, 3) := by decide +kernel
theorem xd_M_setValue_36 : decode xb_M_setValue 36 = .ok (.iload_n 2, 1) := by decide +kernel
theorem xd_M_setValue_37 : decode xb_M_setValue 37 = .ok (.iload_n 3, 1) := by decide +kernel
theorem xd_M_setValue_38 : decode xb_M_setValue 38 = .ok (.iastore, 1) := by decide +kernel
theorem xd_M_setValue_39 : decode xb_M_setValue 39 = .ok (.return_, 1) := by decide +kernel
theorem xd_M_dropBegun_0 : decode xb_M_dropBegun 0 = .ok (.iconst 0, 1) := by decide +kernel
theorem xd_M_dropBegun_1 : decode xb_M_dropBegun 1 = .ok (.istore_n 1, 1) := by decide +kernel
theorem xd_M_dropBegun_2 : decode xb_M_dropBegun 2 = .ok (.iload_n 1, 1) := by decide +kernel
theorem xd_M_dropBegun_3 : decode xb_M_dropBegun 3 = .ok (.bipush 6, 2) := by decide +kernel
theorem xd_M_dropBegun_5 : decode xb_M_dropBegun 5 = .ok (.if_icmp .ge 31, 3) := by decide +kernel
theorem xd_M_dropBegun_8 : decode xb_M_dropBegun 8 = .ok (.aload_n 0, 1) := by decide +kernel
theorem xd_M_dropBegun_9 : decode xb_M_dropBegun 9 = .ok (.getfield 17, 3) := by decide +kernel
theorem xd_M_dropBegun_12 : decode xb_M_dropBegun 12 = .ok (.iload_n 1, 1) := by decide +kernel
theorem xd_M_dropBegun_13 : decode xb_M_dropBegun 13 = .ok (.baload, 1) := by decide +kernel
theorem xd_M_dropBegun_14 : decode xb_M_dropBegun 14 = .ok (.ifCond .eq 16, 3) := by decide +kernel
theorem xd_M_dropBegun_17 : decode xb_M_dropBegun 17 = .ok (.aload_n 0, 1) := by decide +kernel
theorem xd_M_dropBegun_18 : decode xb_M_dropBegun 18 = .ok (.getfield 11, 3) := by decide +kernel
theorem xd_M_dropBegun_21 : decode xb_M_dropBegun 21 = .ok (.iload_n 1, 1) := by decide +kernel
theorem xd_M_dropBegun_22 : decode xb_M_dropBegun 22 = .ok (.aaload, 1) := by decide +kernel
theorem xd_M_dropBegun_23 : decode xb_M_dropBegun 23 = .ok (.getfield 26, 3) := by decide +kernel
theorem xd_M_dropBegun_26 : decode xb_M_dropBegun 26 = .ok (.iconst 0, 1) := by decide +kernel
theorem xd_M_dropBegun_27 : decode xb_M_dropBegun 27 = .ok (.putfield 30, 3) := by decide +kernel
theorem xd_M_dropBegun_30 : decode xb_M_dropBegun 30 = .ok (.iinc 1 1, 3) := by decide +kernel
theorem xd_M_dropBegun_33 : decode xb_M_dropBegun 33 = .ok (.goto (-31), 3) := by decide +kernel
theorem xd_M_dropBegun_36 : decode xb_M_dropBegun 36 = .ok (.return_, 1) := by decide +kernel
theorem xd_M_bringOne_0 : decode xb_M_bringOne 0 = .ok (.aload_n 0, 1) := by decide +kernel
theorem xd_M_bringOne_1 : decode xb_M_bringOne 1 = .ok (.iload_n 2, 1) := by decide +kernel
theorem xd_M_bringOne_2 : decode xb_M_bringOne 2 = .ok (.invokevirtual 36, 3) := by decide +kernel
theorem xd_M_bringOne_5 : decode xb_M_bringOne 5 = .ok (.ifCond .eq 5, 3) := by decide +kernel
theorem xd_M_bringOne_8 : decode xb_M_bringOne 8 = .ok (.iconst 0, 1) := by decide +kernel
theorem xd_M_bringOne_9 : decode xb_M_bringOne 9 = .ok (.ireturn, 1) := by decide +kernel
theorem xd_M_bringOne_10 : decode xb_M_bringOne 10 = .ok (.iload_n 3, 1) := by decide +kernel
theorem xd_M_bringOne_11 : decode xb_M_bringOne 11 = .ok (.bipush 6, 2) := by decide +kernel
theorem xd_M_bringOne_13 : decode xb_M_bringOne 13 = .ok (.if_icmp .ge 12, 3) := by decide +kernel
theorem xd_M_bringOne_16 : decode xb_M_bringOne 16 = .ok (.aload_n 0, 1) := by decide +kernel
theorem xd_M_bringOne_17 : decode xb_M_bringOne 17 = .ok (.getfield 17, 3) := by decide +kernel
theorem xd_M_bringOne_20 : decode xb_M_bringOne 20 = .ok (.iload_n 2, 1) := by decide +kernel
theorem xd_M_bringOne_21 : decode xb_M_bringOne 21 = .ok (.baload, 1) := by decide +kernel
theorem xd_M_bringOne_22 : decode xb_M_bringOne 22 = .ok (.ifCond .eq 6, 3) := by decide +kernel
theorem xd_M_bringOne_25 : decode xb_M_bringOne 25 = .ok (.bipush (-6), 2) := by decide +kernel
theorem xd_M_bringOne_27 : decode xb_M_bringOne 27 = .ok (.ireturn, 1) := by decide +kernel
theorem xd_M_bringOne_28 : decode xb_M_bringOne 28 = .ok (.aload_n 1, 1) := by decide +kernel
theorem xd_M_bringOne_29 : decode xb_M_bringOne 29 = .ok (.iload_n 2, 1) := by decide +kernel
theorem xd_M_bringOne_30 : decode xb_M_bringOne 30 = .ok (.invokevirtual 73, 3) := by decide +kernel
theorem xd_M_bringOne_33 : decode xb_M_bringOne 33 = .ok (.ifCond .ne 6, 3) := by decide +kernel
theorem xd_M_bringOne_36 : decode xb_M_bringOne 36 = .ok (.bipush (-4), 2) := by decide +kernel
theorem xd_M_bringOne_38 : decode xb_M_bringOne 38 = .ok (.ireturn, 1) := by decide +kernel
theorem xd_M_bringOne_39 : decode xb_M_bringOne 39 = .ok (.aload_n 0, 1) := by decide +kernel
theorem xd_M_bringOne_40 : decode xb_M_bringOne 40 = .ok (.getfield 17, 3) := by decide +kernel
theorem xd_M_bringOne_43 : decode xb_M_bringOne 43 = .ok (.iload_n 2, 1) := by decide +kernel
theorem xd_M_bringOne_44 : decode xb_M_bringOne 44 = .ok (.iconst 1, 1) := by decide +kernel
theorem xd_M_bringOne_45 : decode xb_M_bringOne 45 = .ok (.bastore, 1) := by decide +kernel
theorem xd_M_bringOne_46 : decode xb_M_bringOne 46 = .ok (.aload_n 1, 1) := by decide +kernel
theorem xd_M_bringOne_47 : decode xb_M_bringOne 47 = .ok (.getfield 76, 3) := by decide +kernel
theorem xd_M_bringOne_50 : decode xb_M_bringOne 50 = .ok (.iload_n 2, 1) := by decide +kernel
theorem xd_M_bringOne_51 : decode xb_M_bringOne 51 = .ok (.aaload, 1) := by decide +kernel
theorem xd_M_bringOne_52 : decode xb_M_bringOne 52 = .ok (.astore 4, 2) := by decide +kernel
theorem xd_M_bringOne_54 : decode xb_M_bringOne 54 = .ok (.iconst 0, 1) := by decide +kernel
theorem xd_M_bringOne_55 : decode xb_M_bringOne 55 = .ok (.istore 5, 2) := by decide +kernel
theorem xd_M_bringOne_57 : decode xb_M_bringOne 57 = .ok (.iload 5, 2) := by decide +kernel
theorem xd_M_bringOne_59 : decode xb_M_bringOne 59 = .ok (.aload 4, 2) := by decide +kernel
theorem xd_M_bringOne_61 : decode xb_M_bringOne 61 = .ok (.getfield 80, 3) := by decide +kernel
theorem xd_M_bringOne_64 : decode xb_M_bringOne 64 = .ok (.if_icmp .ge 68, 3) := by decide +kernel
theorem xd_M_bringOne_67 : decode xb_M_bringOne 67 = .ok (.aload_n 0, 1) := by decide +kernel
theorem xd_M_bringOne_68 : decode xb_M_bringOne 68 = .ok (.aload_n 1, 1) := by decide +kernel
theorem xd_M_bringOne_69 : decode xb_M_bringOne 69 = .ok (.aload 4, 2) := by decide +kernel
theorem xd_M_bringOne_71 : decode xb_M_bringOne 71 = .ok (.getfield 84, 3) := by decide +kernel
theorem xd_M_bringOne_74 : decode xb_M_bringOne 74 = .ok (.iload 5, 2) := by decide +kernel
theorem xd_M_bringOne_76 : decode xb_M_bringOne 76 = .ok (.iaload, 1) := by decide +kernel
theorem xd_M_bringOne_77 : decode xb_M_bringOne 77 = .ok (.iload_n 3, 1) := by decide +kernel
theorem xd_M_bringOne_78 : decode xb_M_bringOne 78 = .ok (.iconst 1, 1) := by decide +kernel
theorem xd_M_bringOne_79 : decode xb_M_bringOne 79 = .ok (.iadd, 1) := by decide +kernel
theorem xd_M_bringOne_80 : decode xb_M_bringOne 80 = .ok (.invokevirtual 66, 3) := by decide +kernel
theorem xd_M_bringOne_83 : decode xb_M_bringOne 83 = .ok (.istore 6, 2) := by decide +kernel
theorem xd_M_bringOne_85 : decode xb_M_bringOne 85 = .ok (.iload 6, 2) := by decide +kernel
theorem xd_M_bringOne_87 : decode xb_M_bringOne 87 = .ok (.ifCond .eq 6, 3) := by decide +kernel
theorem xd_M_bringOne_90 : decode xb_M_bringOne 90 = .ok (.iload 6, 2) := by decide +kernel
theorem xd_M_bringOne_92 : decode xb_M_bringOne 92 = .ok (.ireturn, 1) := by decide +kernel
theorem xd_M_bringOne_93 : decode xb_M_bringOne 93 = .ok (.aload_n 0, 1) := by decide +kernel
theorem xd_M_bringOne_94 : decode xb_M_bringOne 94 = .ok (.getfield 11, 3) := by decide +kernel
theorem xd_M_bringOne_97 : decode xb_M_bringOne 97 = .ok (.aload 4, 2) := by decide +kernel
theorem xd_M_bringOne_99 : decode xb_M_bringOne 99 = .ok (.getfield 84, 3) := by decide +kernel
theorem xd_M_bringOne_102 : decode xb_M_bringOne 102 = .ok (.iload 5, 2) := by decide +kernel
theorem xd_M_bringOne_104 : decode xb_M_bringOne 104 = .ok (.iaload, 1) := by decide +kernel
theorem xd_M_bringOne_105 : decode xb_M_bringOne 105 = .ok (.aaload, 1) := by decide +kernel
theorem xd_M_bringOne_106 : decode xb_M_bringOne 106 = .ok (.getfield 26, 3) := by decide +kernel
theorem xd_M_bringOne_109 : decode xb_M_bringOne 109 = .ok (.getfield 87, 3) := by decide +kernel
theorem xd_M_bringOne_112 : decode xb_M_bringOne 112 = .ok (.aload 4, 2) := by decide +kernel
theorem xd_M_bringOne_114 : decode xb_M_bringOne 114 = .ok (.getfield 90, 3) := by decide +kernel
theorem xd_M_bringOne_117 : decode xb_M_bringOne 117 = .ok (.iload 5, 2) := by decide +kernel
theorem xd_M_bringOne_119 : decode xb_M_bringOne 119 = .ok (.iaload, 1) := by decide +kernel
theorem xd_M_bringOne_120 : decode xb_M_bringOne 120 = .ok (.if_icmp .eq 6, 3) := by decide +kernel
theorem xd_M_bringOne_123 : decode xb_M_bringOne 123 = .ok (.bipush (-5), 2) := by decide +kernel
theorem xd_M_bringOne_125 : decode xb_M_bringOne 125 = .ok (.ireturn, 1) := by decide +kernel
theorem xd_M_bringOne_126 : decode xb_M_bringOne 126 = .ok (.iinc 5 1, 3) := by decide +kernel
theorem xd_M_bringOne_129 : decode xb_M_bringOne 129 = .ok (.goto (-72), 3) := by decide +kernel
theorem xd_M_bringOne_132 : decode xb_M_bringOne 132 = .ok (.aload_n 0, 1) := by decide +kernel
theorem xd_M_bringOne_133 : decode xb_M_bringOne 133 = .ok (.invokevirtual 93, 3) := by decide +kernel
theorem xd_M_bringOne_136 : decode xb_M_bringOne 136 = .ok (.aload 4, 2) := by decide +kernel
theorem xd_M_bringOne_138 : decode xb_M_bringOne 138 = .ok (.getfield 39, 3) := by decide +kernel
theorem xd_M_bringOne_141 : decode xb_M_bringOne 141 = .ok (.invokevirtual 43, 3) := by decide +kernel
theorem xd_M_bringOne_144 : decode xb_M_bringOne 144 = .ok (.iadd, 1) := by decide +kernel
theorem xd_M_bringOne_145 : decode xb_M_bringOne 145 = .ok (.bipush 50, 2) := by decide +kernel
theorem xd_M_bringOne_147 : decode xb_M_bringOne 147 = .ok (.if_icmp .le 6, 3) := by decide +kernel
theorem xd_M_bringOne_150 : decode xb_M_bringOne 150 = .ok (.bipush (-2), 2) := by decide +kernel
theorem xd_M_bringOne_152 : decode xb_M_bringOne 152 = .ok (.ireturn, 1) := by decide +kernel
theorem xd_M_bringOne_153 : decode xb_M_bringOne 153 = .ok (.aload_n 0, 1) := by decide +kernel
theorem xd_M_bringOne_154 : decode xb_M_bringOne 154 = .ok (.getfield 11, 3) := by decide +kernel
theorem xd_M_bringOne_157 : decode xb_M_bringOne 157 = .ok (.iload_n 2, 1) := by decide +kernel
theorem xd_M_bringOne_158 : decode xb_M_bringOne 158 = .ok (.aaload, 1) := by decide +kernel
theorem xd_M_bringOne_159 : decode xb_M_bringOne 159 = .ok (.aload 4, 2) := by decide +kernel
theorem xd_M_bringOne_161 : decode xb_M_bringOne 161 = .ok (.invokevirtual 94, 3) := by decide +kernel
theorem xd_M_bringOne_164 : decode xb_M_bringOne 164 = .ok (.iconst 0, 1) := by decide +kernel
theorem xd_M_bringOne_165 : decode xb_M_bringOne 165 = .ok (.ireturn, 1) := by decide +kernel
theorem xd_M_bring_0 : decode xb_M_bring 0 = .ok (.aload_n 0, 1) := by decide +kernel
theorem xd_M_bring_1 : decode xb_M_bring 1 = .ok (.invokevirtual 63, 3) := by decide +kernel
theorem xd_M_bring_4 : decode xb_M_bring 4 = .ok (.istore_n 3, 1) := by decide +kernel
theorem xd_M_bring_5 : decode xb_M_bring 5 = .ok (.iconst 0, 1) := by decide +kernel
theorem xd_M_bring_6 : decode xb_M_bring 6 = .ok (.istore 4, 2) := by decide +kernel
theorem xd_M_bring_8 : decode xb_M_bring 8 = .ok (.iload 4, 2) := by decide +kernel
theorem xd_M_bring_10 : decode xb_M_bring 10 = .ok (.bipush 6, 2) := by decide +kernel
theorem xd_M_bring_12 : decode xb_M_bring 12 = .ok (.if_icmp .ge 17, 3) := by decide +kernel
theorem xd_M_bring_15 : decode xb_M_bring 15 = .ok (.aload_n 0, 1) := by decide +kernel
theorem xd_M_bring_16 : decode xb_M_bring 16 = .ok (.getfield 17, 3) := by decide +kernel
theorem xd_M_bring_19 : decode xb_M_bring 19 = .ok (.iload 4, 2) := by decide +kernel
theorem xd_M_bring_21 : decode xb_M_bring 21 = .ok (.iconst 0, 1) := by decide +kernel
theorem xd_M_bring_22 : decode xb_M_bring 22 = .ok (.bastore, 1) := by decide +kernel
theorem xd_M_bring_23 : decode xb_M_bring 23 = .ok (.iinc 4 1, 3) := by decide +kernel
theorem xd_M_bring_26 : decode xb_M_bring 26 = .ok (.goto (-18), 3) := by decide +kernel
theorem xd_M_bring_29 : decode xb_M_bring 29 = .ok (.aload_n 0, 1) := by decide +kernel
theorem xd_M_bring_30 : decode xb_M_bring 30 = .ok (.aload_n 1, 1) := by decide +kernel
theorem xd_M_bring_31 : decode xb_M_bring 31 = .ok (.iload_n 2, 1) := by decide +kernel
theorem xd_M_bring_32 : decode xb_M_bring 32 = .ok (.iconst 0, 1) := by decide +kernel
theorem xd_M_bring_33 : decode xb_M_bring 33 = .ok (.invokevirtual 66, 3) := by decide +kernel
theorem xd_M_bring_36 : decode xb_M_bring 36 = .ok (.istore 4, 2) := by decide +kernel
theorem xd_M_bring_38 : decode xb_M_bring 38 = .ok (.iload 4, 2) := by decide +kernel
theorem xd_M_bring_40 : decode xb_M_bring 40 = .ok (.ifCond .ne 10, 3) := by decide +kernel
theorem xd_M_bring_43 : decode xb_M_bring 43 = .ok (.aload_n 0, 1) := by decide +kernel
theorem xd_M_bring_44 : decode xb_M_bring 44 = .ok (.invokevirtual 63, 3) := by decide +kernel
theorem xd_M_bring_47 : decode xb_M_bring 47 = .ok (.iload_n 3, 1) := by decide +kernel
theorem xd_M_bring_48 : decode xb_M_bring 48 = .ok (.isub, 1) := by decide +kernel
theorem xd_M_bring_49 : decode xb_M_bring 49 = .ok (.ireturn, 1) := by decide +kernel
theorem xd_M_bring_50 : decode xb_M_bring 50 = .ok (.aload_n 0, 1) := by decide +kernel
theorem xd_M_bring_51 : decode xb_M_bring 51 = .ok (.invokevirtual 70, 3) := by decide +kernel
theorem xd_M_bring_54 : decode xb_M_bring 54 = .ok (.iload 4, 2) := by decide +kernel
theorem xd_M_bring_56 : decode xb_M_bring 56 = .ok (.ireturn, 1) := by decide +kernel
section
variable {l : Launch} {D : va_G} {ad : Nat → Nat} {ids : Nat → ClassId} {ps : Nat}
def xm_M_has (σ : aw_m) (k0 : Nat) (a1 : Int32) : Option Int32 := (xm_S_isModule σ a1).bind fun q_1 => (if q_1 = 0 then some (0 : Int32) else if aw_in a1 6 = true then (if σ ((k0 + 1 + 2 + 11 * (Int32.toNatClampNeg a1)) + 1) 0 = 0 then some (0 : Int32) else some (1 : Int32)) else none)
set_option maxHeartbeats 4000000 in
set_option maxRecDepth 100000 in
theorem xc_M_has (σ : aw_m) (k0 : Nat) (a1 : Int32) (q : Int32) (hk0 : kd_k k0 = 8) (hm : xm_M_has σ k0 a1 = some q) : aw_M l D (ty_z ids) (zs_T ps) xy_M_has (xw_M_has :: gw_l) (rm_D (1)) [.ref (ad k0), .int a1] (cw_w ad ids σ) (some (.int q)) (cw_w ad ids σ) := by
  refine aw_intro (cc := xb_M_has) (n := 2) (ret := (some .boolean)) "ModuleShelf$Memory" rfl (by decide) rfl (Nat.le_of_ble_eq_true rfl) ?_
  intro κ C
  unfold xm_M_has at hm
  refine aw_iload_n C 1 xd_M_has_0 rfl rfl ?_
  obtain ⟨q_1, e_1, hm⟩ := aw_bnd hm
  refine aw_callSNi (As := [.int a1]) (rest := []) C (xc_S_isModule σ a1 _  e_1) rfl (gw_sub (gw_C xg_S_isModule)) (List.mem_of_getElem? (i := 6) rfl) (List.mem_cons_of_mem _ wi_S) (List.mem_cons_of_mem _ st_S_isModule) na_S_isModule (rm_lt (by decide) (by decide)) ⟨Nat.zero_le _, Nat.zero_le _⟩ rfl (Nat.le_of_ble_eq_true rfl) xd_M_has_1 ?_
  refine aw_if_eq (tgt := 26) C xd_M_has_4 (by decide) (fun c_4 => ?_) (fun c_4 => ?_)
  · rw [if_pos c_4] at hm
    refine aw_iconst (v := (0 : Int32)) C xd_M_has_26 (by decide) ?_
    cases hm
    exact aw_zret C (by decide) xd_M_has_27
  · rw [if_neg c_4] at hm
    refine aw_aload_n C 0 xd_M_has_7 rfl rfl ?_
    refine aw_get C k0 (kd_lt hk0) (ly_M hk0) rfl (fun w h => List.mem_cons_of_mem _ (xi_M w h)) 0 (by decide) rfl (List.mem_cons_of_mem _ fl_M_11) xd_M_has_8 ?_
    refine aw_iload_n C 1 xd_M_has_11 rfl rfl ?_
    obtain ⟨g_12, hm⟩ := aw_grd hm
    refine aw_aald C (k0 + 1) (kd_lt (kf_M_images hk0)) 3 (ly_I6 (kf_M_images hk0)) rfl (aw_in_ok g_12) (if_pos (aw_in_lt g_12)) xd_M_has_12 ?_
    refine aw_get C (k0 + 1 + 2 + 11 * (Int32.toNatClampNeg a1)) (kd_lt (ka_I6 (kf_M_images hk0) (aw_in_lt g_12))) (ly_I (ka_I6 (kf_M_images hk0) (aw_in_lt g_12))) rfl (fun w h => List.mem_cons_of_mem _ (xi_I w h)) 0 (by decide) rfl (List.mem_cons_of_mem _ fl_M_26) xd_M_has_13 ?_
    refine aw_get C ((k0 + 1 + 2 + 11 * (Int32.toNatClampNeg a1)) + 1) (kd_lt (kf_I_unit (ka_I6 (kf_M_images hk0) (aw_in_lt g_12)))) (ly_U (kf_I_unit (ka_I6 (kf_M_images hk0) (aw_in_lt g_12)))) rfl (fun w h => List.mem_cons_of_mem _ (xi_U w h)) 0 (by decide) rfl (List.mem_cons_of_mem _ fl_M_30) xd_M_has_16 ?_
    refine aw_if_eq (tgt := 26) C xd_M_has_19 (by decide) (fun c_19 => ?_) (fun c_19 => ?_)
    · rw [if_pos c_19] at hm
      refine aw_iconst (v := (0 : Int32)) C xd_M_has_26 (by decide) ?_
      cases hm
      exact aw_zret C (by decide) xd_M_has_27
    · rw [if_neg c_19] at hm
      refine aw_iconst (v := (1 : Int32)) C xd_M_has_22 (by decide) ?_
      refine aw_goto (tgt := 27) C xd_M_has_23 (by decide) ?_
      cases hm
      exact aw_zret C (by decide) xd_M_has_27
def xq_M_held_4 (σ : aw_m)  : Nat → Nat → Int32 → Int32 → Option Int32
  | 0, _, _, _ => none
  | n + 1, j0, v1, v2 => (if (6 : Int32) ≤ v2 then some v1 else (xm_M_has σ j0 v2).bind fun q_13 => (if q_13 = 0 then xq_M_held_4 σ n j0 (v1 + (0 : Int32)) (v2 + (1 : Int32)) else xq_M_held_4 σ n j0 (v1 + (1 : Int32)) (v2 + (1 : Int32))))
def xm_M_held (σ : aw_m) (k0 : Nat) : Option Int32 := xq_M_held_4 σ 64 k0 (0 : Int32) (0 : Int32)
set_option maxHeartbeats 4000000 in
set_option maxRecDepth 100000 in
theorem xl_M_held_4 (σ : aw_m)  {κ : aw_K} (q : Int32) (C : aw_X l D (ty_z ids) (zs_T ps) (rm_D (2)) xb_M_held 3 "ModuleShelf$Memory" (xw_M_held :: gw_l) (some .int) (some (.int q)) (cw_w ad ids σ) κ) : ∀ (n : Nat) (j0 : Nat) (v1 : Int32) (v2 : Int32) (hj0 : kd_k j0 = 8), xq_M_held_4 σ n j0 v1 v2 = some q → aw_J κ 0 0 (cw_w ad ids σ) [(0, .ref (ad j0)), (1, .int v1), (2, .int v2)] 4 [] := by
  intro n
  induction n with
  | zero => intro j0 v1 v2 hj0 hm; cases hm
  | succ n ih =>
    intro j0 v1 v2 hj0 hm
    rw [xq_M_held_4] at hm
    refine aw_iload_n C 2 xd_M_held_4 rfl rfl ?_
    refine aw_bipush (v := (6 : Int32)) C xd_M_held_5 (by decide) ?_
    refine aw_icmp_ge (tgt := 32) C xd_M_held_7 (by decide) (fun c_7 => ?_) (fun c_7 => ?_)
    · rw [if_pos c_7] at hm
      refine aw_iload_n C 1 xd_M_held_32 rfl rfl ?_
      cases hm
      exact aw_iret C xd_M_held_33
    · rw [if_neg c_7] at hm
      refine aw_iload_n C 1 xd_M_held_10 rfl rfl ?_
      refine aw_aload_n C 0 xd_M_held_11 rfl rfl ?_
      refine aw_iload_n C 2 xd_M_held_12 rfl rfl ?_
      obtain ⟨q_13, e_13, hm⟩ := aw_bnd hm
      refine aw_callVi (As := [.int v2]) (rest := [.int v1]) (b := ad j0) C (xc_M_has σ j0 v2 _ hj0 e_13) rfl (gw_sub (gw_V xg_M_has ml_M_36 im_M_has se_M_has wi_M)) na_M_has (rm_lt (by decide) (by decide)) ⟨Nat.zero_le _, Nat.zero_le _⟩ j0 (at_M hj0) rfl rfl (Nat.le_of_ble_eq_true rfl) xd_M_held_13 ?_
      refine aw_if_eq (tgt := 23) C xd_M_held_16 (by decide) (fun c_16 => ?_) (fun c_16 => ?_)
      · rw [if_pos c_16] at hm
        refine aw_iconst (v := (0 : Int32)) C xd_M_held_23 (by decide) ?_
        refine aw_iadd C xd_M_held_24 ?_
        refine aw_istore_n (L' := [(1, .int (v1 + (0 : Int32))), (0, .ref (ad j0)), (2, .int v2)]) C xd_M_held_25 rfl (by decide) rfl ?_
        refine aw_iinc (j := 2) (v := v2 + (1 : Int32)) (L' := [(2, .int (v2 + (1 : Int32))), (1, .int (v1 + (0 : Int32))), (0, .ref (ad j0))]) C xd_M_held_26 rfl rfl (by decide) rfl ?_
        refine aw_goto (tgt := 4) C xd_M_held_29 (by decide) ?_
        refine aw_loc (L' := [(0, .ref (ad j0)), (1, .int (v1 + (0 : Int32))), (2, .int (v2 + (1 : Int32)))]) C [2, 1, 0] rfl ?_
        exact ih j0 (v1 + (0 : Int32)) (v2 + (1 : Int32)) hj0 hm
      · rw [if_neg c_16] at hm
        refine aw_iconst (v := (1 : Int32)) C xd_M_held_19 (by decide) ?_
        refine aw_goto (tgt := 24) C xd_M_held_20 (by decide) ?_
        refine aw_iadd C xd_M_held_24 ?_
        refine aw_istore_n (L' := [(1, .int (v1 + (1 : Int32))), (0, .ref (ad j0)), (2, .int v2)]) C xd_M_held_25 rfl (by decide) rfl ?_
        refine aw_iinc (j := 2) (v := v2 + (1 : Int32)) (L' := [(2, .int (v2 + (1 : Int32))), (1, .int (v1 + (1 : Int32))), (0, .ref (ad j0))]) C xd_M_held_26 rfl rfl (by decide) rfl ?_
        refine aw_goto (tgt := 4) C xd_M_held_29 (by decide) ?_
        refine aw_loc (L' := [(0, .ref (ad j0)), (1, .int (v1 + (1 : Int32))), (2, .int (v2 + (1 : Int32)))]) C [2, 1, 0] rfl ?_
        exact ih j0 (v1 + (1 : Int32)) (v2 + (1 : Int32)) hj0 hm
set_option maxHeartbeats 4000000 in
set_option maxRecDepth 100000 in
theorem xc_M_held (σ : aw_m) (k0 : Nat) (q : Int32) (hk0 : kd_k k0 = 8) (hm : xm_M_held σ k0 = some q) : aw_M l D (ty_z ids) (zs_T ps) xy_M_held (xw_M_held :: gw_l) (rm_D (2)) [.ref (ad k0)] (cw_w ad ids σ) (some (.int q)) (cw_w ad ids σ) := by
  refine aw_intro (cc := xb_M_held) (n := 3) (ret := (some .int)) "ModuleShelf$Memory" rfl (by decide) rfl (Nat.le_of_ble_eq_true rfl) ?_
  intro κ C
  unfold xm_M_held at hm
  refine aw_iconst (v := (0 : Int32)) C xd_M_held_0 (by decide) ?_
  refine aw_istore_n (L' := [(1, .int (0 : Int32)), (0, .ref (ad k0))]) C xd_M_held_1 rfl (by decide) rfl ?_
  refine aw_iconst (v := (0 : Int32)) C xd_M_held_2 (by decide) ?_
  refine aw_istore_n (L' := [(2, .int (0 : Int32)), (1, .int (0 : Int32)), (0, .ref (ad k0))]) C xd_M_held_3 rfl (by decide) rfl ?_
  refine aw_loc (L' := [(0, .ref (ad k0)), (1, .int (0 : Int32)), (2, .int (0 : Int32))]) C [2, 1, 0] rfl ?_
  exact xl_M_held_4 σ _ C 64 k0 (0 : Int32) (0 : Int32) hk0 hm
def xq_M_size_4 (σ : aw_m)  : Nat → Nat → Int32 → Int32 → Option Int32
  | 0, _, _, _ => none
  | n + 1, j0, v1, v2 => (if (6 : Int32) ≤ v2 then some v1 else (xm_M_has σ j0 v2).bind fun q_13 => (if q_13 = 0 then xq_M_size_4 σ n j0 (v1 + (0 : Int32)) (v2 + (1 : Int32)) else if aw_in v2 6 = true then (xm_C_size σ (((j0 + 1 + 2 + 11 * (Int32.toNatClampNeg v2)) + 1) + 3)).bind fun q_31 => xq_M_size_4 σ n j0 (v1 + q_31) (v2 + (1 : Int32)) else none))
def xm_M_size (σ : aw_m) (k0 : Nat) : Option Int32 := xq_M_size_4 σ 64 k0 (0 : Int32) (0 : Int32)
set_option maxHeartbeats 4000000 in
set_option maxRecDepth 100000 in
theorem xl_M_size_4 (σ : aw_m)  {κ : aw_K} (q : Int32) (C : aw_X l D (ty_z ids) (zs_T ps) (rm_D (2)) xb_M_size 3 "ModuleShelf$Memory" (xw_M_size :: gw_l) (some .int) (some (.int q)) (cw_w ad ids σ) κ) : ∀ (n : Nat) (j0 : Nat) (v1 : Int32) (v2 : Int32) (hj0 : kd_k j0 = 8), xq_M_size_4 σ n j0 v1 v2 = some q → aw_J κ 0 0 (cw_w ad ids σ) [(0, .ref (ad j0)), (1, .int v1), (2, .int v2)] 4 [] := by
  intro n
  induction n with
  | zero => intro j0 v1 v2 hj0 hm; cases hm
  | succ n ih =>
    intro j0 v1 v2 hj0 hm
    rw [xq_M_size_4] at hm
    refine aw_iload_n C 2 xd_M_size_4 rfl rfl ?_
    refine aw_bipush (v := (6 : Int32)) C xd_M_size_5 (by decide) ?_
    refine aw_icmp_ge (tgt := 46) C xd_M_size_7 (by decide) (fun c_7 => ?_) (fun c_7 => ?_)
    · rw [if_pos c_7] at hm
      refine aw_iload_n C 1 xd_M_size_46 rfl rfl ?_
      cases hm
      exact aw_iret C xd_M_size_47
    · rw [if_neg c_7] at hm
      refine aw_iload_n C 1 xd_M_size_10 rfl rfl ?_
      refine aw_aload_n C 0 xd_M_size_11 rfl rfl ?_
      refine aw_iload_n C 2 xd_M_size_12 rfl rfl ?_
      obtain ⟨q_13, e_13, hm⟩ := aw_bnd hm
      refine aw_callVi (As := [.int v2]) (rest := [.int v1]) (b := ad j0) C (xc_M_has σ j0 v2 _ hj0 e_13) rfl (gw_sub (gw_V xg_M_has ml_M_36 im_M_has se_M_has wi_M)) na_M_has (rm_lt (by decide) (by decide)) ⟨Nat.zero_le _, Nat.zero_le _⟩ j0 (at_M hj0) rfl rfl (Nat.le_of_ble_eq_true rfl) xd_M_size_13 ?_
      refine aw_if_eq (tgt := 37) C xd_M_size_16 (by decide) (fun c_16 => ?_) (fun c_16 => ?_)
      · rw [if_pos c_16] at hm
        refine aw_iconst (v := (0 : Int32)) C xd_M_size_37 (by decide) ?_
        refine aw_iadd C xd_M_size_38 ?_
        refine aw_istore_n (L' := [(1, .int (v1 + (0 : Int32))), (0, .ref (ad j0)), (2, .int v2)]) C xd_M_size_39 rfl (by decide) rfl ?_
        refine aw_iinc (j := 2) (v := v2 + (1 : Int32)) (L' := [(2, .int (v2 + (1 : Int32))), (1, .int (v1 + (0 : Int32))), (0, .ref (ad j0))]) C xd_M_size_40 rfl rfl (by decide) rfl ?_
        refine aw_goto (tgt := 4) C xd_M_size_43 (by decide) ?_
        refine aw_loc (L' := [(0, .ref (ad j0)), (1, .int (v1 + (0 : Int32))), (2, .int (v2 + (1 : Int32)))]) C [2, 1, 0] rfl ?_
        exact ih j0 (v1 + (0 : Int32)) (v2 + (1 : Int32)) hj0 hm
      · rw [if_neg c_16] at hm
        refine aw_aload_n C 0 xd_M_size_19 rfl rfl ?_
        refine aw_get C j0 (kd_lt hj0) (ly_M hj0) rfl (fun w h => List.mem_cons_of_mem _ (xi_M w h)) 0 (by decide) rfl (List.mem_cons_of_mem _ fl_M_11) xd_M_size_20 ?_
        refine aw_iload_n C 2 xd_M_size_23 rfl rfl ?_
        obtain ⟨g_24, hm⟩ := aw_grd hm
        refine aw_aald C (j0 + 1) (kd_lt (kf_M_images hj0)) 3 (ly_I6 (kf_M_images hj0)) rfl (aw_in_ok g_24) (if_pos (aw_in_lt g_24)) xd_M_size_24 ?_
        refine aw_get C (j0 + 1 + 2 + 11 * (Int32.toNatClampNeg v2)) (kd_lt (ka_I6 (kf_M_images hj0) (aw_in_lt g_24))) (ly_I (ka_I6 (kf_M_images hj0) (aw_in_lt g_24))) rfl (fun w h => List.mem_cons_of_mem _ (xi_I w h)) 0 (by decide) rfl (List.mem_cons_of_mem _ fl_M_26) xd_M_size_25 ?_
        refine aw_get C ((j0 + 1 + 2 + 11 * (Int32.toNatClampNeg v2)) + 1) (kd_lt (kf_I_unit (ka_I6 (kf_M_images hj0) (aw_in_lt g_24)))) (ly_U (kf_I_unit (ka_I6 (kf_M_images hj0) (aw_in_lt g_24)))) rfl (fun w h => List.mem_cons_of_mem _ (xi_U w h)) 5 (by decide) rfl (List.mem_cons_of_mem _ fl_M_39) xd_M_size_28 ?_
        obtain ⟨q_31, e_31, hm⟩ := aw_bnd hm
        refine aw_callVi (As := []) (rest := [.int v1]) (b := ad (((j0 + 1 + 2 + 11 * (Int32.toNatClampNeg v2)) + 1) + 3)) C (xc_C_size σ (((j0 + 1 + 2 + 11 * (Int32.toNatClampNeg v2)) + 1) + 3) _ (kf_U_code (kf_I_unit (ka_I6 (kf_M_images hj0) (aw_in_lt g_24)))) e_31) rfl (gw_sub (gw_V xg_C_size ml_M_43 im_C_size se_C_size wi_C)) na_C_size (rm_lt (by decide) (by decide)) ⟨Nat.zero_le _, Nat.zero_le _⟩ (((j0 + 1 + 2 + 11 * (Int32.toNatClampNeg v2)) + 1) + 3) (at_C (kf_U_code (kf_I_unit (ka_I6 (kf_M_images hj0) (aw_in_lt g_24))))) rfl rfl (Nat.le_of_ble_eq_true rfl) xd_M_size_31 ?_
        refine aw_goto (tgt := 38) C xd_M_size_34 (by decide) ?_
        refine aw_iadd C xd_M_size_38 ?_
        refine aw_istore_n (L' := [(1, .int (v1 + q_31)), (0, .ref (ad j0)), (2, .int v2)]) C xd_M_size_39 rfl (by decide) rfl ?_
        refine aw_iinc (j := 2) (v := v2 + (1 : Int32)) (L' := [(2, .int (v2 + (1 : Int32))), (1, .int (v1 + q_31)), (0, .ref (ad j0))]) C xd_M_size_40 rfl rfl (by decide) rfl ?_
        refine aw_goto (tgt := 4) C xd_M_size_43 (by decide) ?_
        refine aw_loc (L' := [(0, .ref (ad j0)), (1, .int (v1 + q_31)), (2, .int (v2 + (1 : Int32)))]) C [2, 1, 0] rfl ?_
        exact ih j0 (v1 + q_31) (v2 + (1 : Int32)) hj0 hm
set_option maxHeartbeats 4000000 in
set_option maxRecDepth 100000 in
theorem xc_M_size (σ : aw_m) (k0 : Nat) (q : Int32) (hk0 : kd_k k0 = 8) (hm : xm_M_size σ k0 = some q) : aw_M l D (ty_z ids) (zs_T ps) xy_M_size (xw_M_size :: gw_l) (rm_D (2)) [.ref (ad k0)] (cw_w ad ids σ) (some (.int q)) (cw_w ad ids σ) := by
  refine aw_intro (cc := xb_M_size) (n := 3) (ret := (some .int)) "ModuleShelf$Memory" rfl (by decide) rfl (Nat.le_of_ble_eq_true rfl) ?_
  intro κ C
  unfold xm_M_size at hm
  refine aw_iconst (v := (0 : Int32)) C xd_M_size_0 (by decide) ?_
  refine aw_istore_n (L' := [(1, .int (0 : Int32)), (0, .ref (ad k0))]) C xd_M_size_1 rfl (by decide) rfl ?_
  refine aw_iconst (v := (0 : Int32)) C xd_M_size_2 (by decide) ?_
  refine aw_istore_n (L' := [(2, .int (0 : Int32)), (1, .int (0 : Int32)), (0, .ref (ad k0))]) C xd_M_size_3 rfl (by decide) rfl ?_
  refine aw_loc (L' := [(0, .ref (ad k0)), (1, .int (0 : Int32)), (2, .int (0 : Int32))]) C [2, 1, 0] rfl ?_
  exact xl_M_size_4 σ _ C 64 k0 (0 : Int32) (0 : Int32) hk0 hm
def xq_M_isImported_2 (σ : aw_m)  : Nat → Nat → Int32 → Int32 → Option Int32
  | 0, _, _, _ => none
  | n + 1, j0, v1, v2 => (if (6 : Int32) ≤ v2 then some (0 : Int32) else (xm_M_has σ j0 v2).bind fun q_10 => (if q_10 = 0 then xq_M_isImported_2 σ n j0 v1 (v2 + (1 : Int32)) else if aw_in v2 6 = true then (xm_U_hasImport σ ((j0 + 1 + 2 + 11 * (Int32.toNatClampNeg v2)) + 1) v1).bind fun q_26 => (if q_26 = 0 then xq_M_isImported_2 σ n j0 v1 (v2 + (1 : Int32)) else some (1 : Int32)) else none))
def xm_M_isImported (σ : aw_m) (k0 : Nat) (a1 : Int32) : Option Int32 := xq_M_isImported_2 σ 64 k0 a1 (0 : Int32)
set_option maxHeartbeats 4000000 in
set_option maxRecDepth 100000 in
theorem xl_M_isImported_2 (σ : aw_m)  {κ : aw_K} (q : Int32) (C : aw_X l D (ty_z ids) (zs_T ps) (rm_D (2)) xb_M_isImported 3 "ModuleShelf$Memory" (xw_M_isImported :: gw_l) (some .boolean) (some (.int q)) (cw_w ad ids σ) κ) : ∀ (n : Nat) (j0 : Nat) (v1 : Int32) (v2 : Int32) (hj0 : kd_k j0 = 8), xq_M_isImported_2 σ n j0 v1 v2 = some q → aw_J κ 0 0 (cw_w ad ids σ) [(0, .ref (ad j0)), (1, .int v1), (2, .int v2)] 2 [] := by
  intro n
  induction n with
  | zero => intro j0 v1 v2 hj0 hm; cases hm
  | succ n ih =>
    intro j0 v1 v2 hj0 hm
    rw [xq_M_isImported_2] at hm
    refine aw_iload_n C 2 xd_M_isImported_2 rfl rfl ?_
    refine aw_bipush (v := (6 : Int32)) C xd_M_isImported_3 (by decide) ?_
    refine aw_icmp_ge (tgt := 40) C xd_M_isImported_5 (by decide) (fun c_5 => ?_) (fun c_5 => ?_)
    · rw [if_pos c_5] at hm
      refine aw_iconst (v := (0 : Int32)) C xd_M_isImported_40 (by decide) ?_
      cases hm
      exact aw_zret C (by decide) xd_M_isImported_41
    · rw [if_neg c_5] at hm
      refine aw_aload_n C 0 xd_M_isImported_8 rfl rfl ?_
      refine aw_iload_n C 2 xd_M_isImported_9 rfl rfl ?_
      obtain ⟨q_10, e_10, hm⟩ := aw_bnd hm
      refine aw_callVi (As := [.int v2]) (rest := []) (b := ad j0) C (xc_M_has σ j0 v2 _ hj0 e_10) rfl (gw_sub (gw_V xg_M_has ml_M_36 im_M_has se_M_has wi_M)) na_M_has (rm_lt (by decide) (by decide)) ⟨Nat.zero_le _, Nat.zero_le _⟩ j0 (at_M hj0) rfl rfl (Nat.le_of_ble_eq_true rfl) xd_M_isImported_10 ?_
      refine aw_if_eq (tgt := 34) C xd_M_isImported_13 (by decide) (fun c_13 => ?_) (fun c_13 => ?_)
      · rw [if_pos c_13] at hm
        refine aw_iinc (j := 2) (v := v2 + (1 : Int32)) (L' := [(2, .int (v2 + (1 : Int32))), (0, .ref (ad j0)), (1, .int v1)]) C xd_M_isImported_34 rfl rfl (by decide) rfl ?_
        refine aw_goto (tgt := 2) C xd_M_isImported_37 (by decide) ?_
        refine aw_loc (L' := [(0, .ref (ad j0)), (1, .int v1), (2, .int (v2 + (1 : Int32)))]) C [1, 2, 0] rfl ?_
        exact ih j0 v1 (v2 + (1 : Int32)) hj0 hm
      · rw [if_neg c_13] at hm
        refine aw_aload_n C 0 xd_M_isImported_16 rfl rfl ?_
        refine aw_get C j0 (kd_lt hj0) (ly_M hj0) rfl (fun w h => List.mem_cons_of_mem _ (xi_M w h)) 0 (by decide) rfl (List.mem_cons_of_mem _ fl_M_11) xd_M_isImported_17 ?_
        refine aw_iload_n C 2 xd_M_isImported_20 rfl rfl ?_
        obtain ⟨g_21, hm⟩ := aw_grd hm
        refine aw_aald C (j0 + 1) (kd_lt (kf_M_images hj0)) 3 (ly_I6 (kf_M_images hj0)) rfl (aw_in_ok g_21) (if_pos (aw_in_lt g_21)) xd_M_isImported_21 ?_
        refine aw_get C (j0 + 1 + 2 + 11 * (Int32.toNatClampNeg v2)) (kd_lt (ka_I6 (kf_M_images hj0) (aw_in_lt g_21))) (ly_I (ka_I6 (kf_M_images hj0) (aw_in_lt g_21))) rfl (fun w h => List.mem_cons_of_mem _ (xi_I w h)) 0 (by decide) rfl (List.mem_cons_of_mem _ fl_M_26) xd_M_isImported_22 ?_
        refine aw_iload_n C 1 xd_M_isImported_25 rfl rfl ?_
        obtain ⟨q_26, e_26, hm⟩ := aw_bnd hm
        refine aw_callVi (As := [.int v1]) (rest := []) (b := ad ((j0 + 1 + 2 + 11 * (Int32.toNatClampNeg v2)) + 1)) C (xc_U_hasImport σ ((j0 + 1 + 2 + 11 * (Int32.toNatClampNeg v2)) + 1) v1 _ (kf_I_unit (ka_I6 (kf_M_images hj0) (aw_in_lt g_21))) e_26) rfl (gw_sub (gw_V xg_U_hasImport ml_M_49 im_U_hasImport se_U_hasImport wi_U)) na_U_hasImport (rm_lt (by decide) (by decide)) ⟨Nat.zero_le _, Nat.zero_le _⟩ ((j0 + 1 + 2 + 11 * (Int32.toNatClampNeg v2)) + 1) (at_U (kf_I_unit (ka_I6 (kf_M_images hj0) (aw_in_lt g_21)))) rfl rfl (Nat.le_of_ble_eq_true rfl) xd_M_isImported_26 ?_
        refine aw_if_eq (tgt := 34) C xd_M_isImported_29 (by decide) (fun c_29 => ?_) (fun c_29 => ?_)
        · rw [if_pos c_29] at hm
          refine aw_iinc (j := 2) (v := v2 + (1 : Int32)) (L' := [(2, .int (v2 + (1 : Int32))), (0, .ref (ad j0)), (1, .int v1)]) C xd_M_isImported_34 rfl rfl (by decide) rfl ?_
          refine aw_goto (tgt := 2) C xd_M_isImported_37 (by decide) ?_
          refine aw_loc (L' := [(0, .ref (ad j0)), (1, .int v1), (2, .int (v2 + (1 : Int32)))]) C [1, 2, 0] rfl ?_
          exact ih j0 v1 (v2 + (1 : Int32)) hj0 hm
        · rw [if_neg c_29] at hm
          refine aw_iconst (v := (1 : Int32)) C xd_M_isImported_32 (by decide) ?_
          cases hm
          exact aw_zret C (by decide) xd_M_isImported_33
set_option maxHeartbeats 4000000 in
set_option maxRecDepth 100000 in
theorem xc_M_isImported (σ : aw_m) (k0 : Nat) (a1 : Int32) (q : Int32) (hk0 : kd_k k0 = 8) (hm : xm_M_isImported σ k0 a1 = some q) : aw_M l D (ty_z ids) (zs_T ps) xy_M_isImported (xw_M_isImported :: gw_l) (rm_D (2)) [.ref (ad k0), .int a1] (cw_w ad ids σ) (some (.int q)) (cw_w ad ids σ) := by
  refine aw_intro (cc := xb_M_isImported) (n := 3) (ret := (some .boolean)) "ModuleShelf$Memory" rfl (by decide) rfl (Nat.le_of_ble_eq_true rfl) ?_
  intro κ C
  unfold xm_M_isImported at hm
  refine aw_iconst (v := (0 : Int32)) C xd_M_isImported_0 (by decide) ?_
  refine aw_istore_n (L' := [(2, .int (0 : Int32)), (0, .ref (ad k0)), (1, .int a1)]) C xd_M_isImported_1 rfl (by decide) rfl ?_
  refine aw_loc (L' := [(0, .ref (ad k0)), (1, .int a1), (2, .int (0 : Int32))]) C [1, 2, 0] rfl ?_
  exact xl_M_isImported_2 σ _ C 64 k0 a1 (0 : Int32) hk0 hm
def xm_M_argumentsOf (σ : aw_m) (k0 : Nat) (a1 : Int32) (a2 : Int32) : Option Int32 := (xm_M_has σ k0 a1).bind fun q_2 => (if q_2 = 0 then some (-1 : Int32) else if aw_in a1 6 = true then (xm_C_argumentsOf σ (((k0 + 1 + 2 + 11 * (Int32.toNatClampNeg a1)) + 1) + 3) a2).bind fun q_21 => some q_21 else none)
set_option maxHeartbeats 4000000 in
set_option maxRecDepth 100000 in
theorem xc_M_argumentsOf (σ : aw_m) (k0 : Nat) (a1 : Int32) (a2 : Int32) (q : Int32) (hk0 : kd_k k0 = 8) (hm : xm_M_argumentsOf σ k0 a1 a2 = some q) : aw_M l D (ty_z ids) (zs_T ps) xy_M_argumentsOf (xw_M_argumentsOf :: gw_l) (rm_D (2)) [.ref (ad k0), .int a1, .int a2] (cw_w ad ids σ) (some (.int q)) (cw_w ad ids σ) := by
  refine aw_intro (cc := xb_M_argumentsOf) (n := 3) (ret := (some .int)) "ModuleShelf$Memory" rfl (by decide) rfl (Nat.le_of_ble_eq_true rfl) ?_
  intro κ C
  unfold xm_M_argumentsOf at hm
  refine aw_aload_n C 0 xd_M_argumentsOf_0 rfl rfl ?_
  refine aw_iload_n C 1 xd_M_argumentsOf_1 rfl rfl ?_
  obtain ⟨q_2, e_2, hm⟩ := aw_bnd hm
  refine aw_callVi (As := [.int a1]) (rest := []) (b := ad k0) C (xc_M_has σ k0 a1 _ hk0 e_2) rfl (gw_sub (gw_V xg_M_has ml_M_36 im_M_has se_M_has wi_M)) na_M_has (rm_lt (by decide) (by decide)) ⟨Nat.zero_le _, Nat.zero_le _⟩ k0 (at_M hk0) rfl rfl (Nat.le_of_ble_eq_true rfl) xd_M_argumentsOf_2 ?_
  refine aw_if_eq (tgt := 27) C xd_M_argumentsOf_5 (by decide) (fun c_5 => ?_) (fun c_5 => ?_)
  · rw [if_pos c_5] at hm
    refine aw_iconst (v := (-1 : Int32)) C xd_M_argumentsOf_27 (by decide) ?_
    cases hm
    exact aw_iret C xd_M_argumentsOf_28
  · rw [if_neg c_5] at hm
    refine aw_aload_n C 0 xd_M_argumentsOf_8 rfl rfl ?_
    refine aw_get C k0 (kd_lt hk0) (ly_M hk0) rfl (fun w h => List.mem_cons_of_mem _ (xi_M w h)) 0 (by decide) rfl (List.mem_cons_of_mem _ fl_M_11) xd_M_argumentsOf_9 ?_
    refine aw_iload_n C 1 xd_M_argumentsOf_12 rfl rfl ?_
    obtain ⟨g_13, hm⟩ := aw_grd hm
    refine aw_aald C (k0 + 1) (kd_lt (kf_M_images hk0)) 3 (ly_I6 (kf_M_images hk0)) rfl (aw_in_ok g_13) (if_pos (aw_in_lt g_13)) xd_M_argumentsOf_13 ?_
    refine aw_get C (k0 + 1 + 2 + 11 * (Int32.toNatClampNeg a1)) (kd_lt (ka_I6 (kf_M_images hk0) (aw_in_lt g_13))) (ly_I (ka_I6 (kf_M_images hk0) (aw_in_lt g_13))) rfl (fun w h => List.mem_cons_of_mem _ (xi_I w h)) 0 (by decide) rfl (List.mem_cons_of_mem _ fl_M_26) xd_M_argumentsOf_14 ?_
    refine aw_get C ((k0 + 1 + 2 + 11 * (Int32.toNatClampNeg a1)) + 1) (kd_lt (kf_I_unit (ka_I6 (kf_M_images hk0) (aw_in_lt g_13)))) (ly_U (kf_I_unit (ka_I6 (kf_M_images hk0) (aw_in_lt g_13)))) rfl (fun w h => List.mem_cons_of_mem _ (xi_U w h)) 5 (by decide) rfl (List.mem_cons_of_mem _ fl_M_39) xd_M_argumentsOf_17 ?_
    refine aw_iload_n C 2 xd_M_argumentsOf_20 rfl rfl ?_
    obtain ⟨q_21, e_21, hm⟩ := aw_bnd hm
    refine aw_callVi (As := [.int a2]) (rest := []) (b := ad (((k0 + 1 + 2 + 11 * (Int32.toNatClampNeg a1)) + 1) + 3)) C (xc_C_argumentsOf σ (((k0 + 1 + 2 + 11 * (Int32.toNatClampNeg a1)) + 1) + 3) a2 _ (kf_U_code (kf_I_unit (ka_I6 (kf_M_images hk0) (aw_in_lt g_13)))) e_21) rfl (gw_sub (gw_V xg_C_argumentsOf ml_M_52 im_C_argumentsOf se_C_argumentsOf wi_C)) na_C_argumentsOf (rm_lt (by decide) (by decide)) ⟨Nat.zero_le _, Nat.zero_le _⟩ (((k0 + 1 + 2 + 11 * (Int32.toNatClampNeg a1)) + 1) + 3) (at_C (kf_U_code (kf_I_unit (ka_I6 (kf_M_images hk0) (aw_in_lt g_13))))) rfl rfl (Nat.le_of_ble_eq_true rfl) xd_M_argumentsOf_21 ?_
    refine aw_goto (tgt := 28) C xd_M_argumentsOf_24 (by decide) ?_
    cases hm
    exact aw_iret C xd_M_argumentsOf_28
def xm_M_valueOf (σ : aw_m) (k0 : Nat) (a1 : Int32) (a2 : Int32) : Option Int32 := (xm_M_has σ k0 a1).bind fun q_2 => (if q_2 = 0 then some (0 : Int32) else if aw_in a1 6 = true then (xm_C_hasVariable σ (((k0 + 1 + 2 + 11 * (Int32.toNatClampNeg a1)) + 1) + 3) a2).bind fun q_21 => (if q_21 = 0 then some (0 : Int32) else if aw_in a1 6 = true then if aw_in a2 3 = true then some (σ ((k0 + 1 + 2 + 11 * (Int32.toNatClampNeg a1)) + 10) (Int32.toNatClampNeg a2)) else none else none) else none)
set_option maxHeartbeats 4000000 in
set_option maxRecDepth 100000 in
theorem xc_M_valueOf (σ : aw_m) (k0 : Nat) (a1 : Int32) (a2 : Int32) (q : Int32) (hk0 : kd_k k0 = 8) (hm : xm_M_valueOf σ k0 a1 a2 = some q) : aw_M l D (ty_z ids) (zs_T ps) xy_M_valueOf (xw_M_valueOf :: gw_l) (rm_D (2)) [.ref (ad k0), .int a1, .int a2] (cw_w ad ids σ) (some (.int q)) (cw_w ad ids σ) := by
  refine aw_intro (cc := xb_M_valueOf) (n := 3) (ret := (some .int)) "ModuleShelf$Memory" rfl (by decide) rfl (Nat.le_of_ble_eq_true rfl) ?_
  intro κ C
  unfold xm_M_valueOf at hm
  refine aw_aload_n C 0 xd_M_valueOf_0 rfl rfl ?_
  refine aw_iload_n C 1 xd_M_valueOf_1 rfl rfl ?_
  obtain ⟨q_2, e_2, hm⟩ := aw_bnd hm
  refine aw_callVi (As := [.int a1]) (rest := []) (b := ad k0) C (xc_M_has σ k0 a1 _ hk0 e_2) rfl (gw_sub (gw_V xg_M_has ml_M_36 im_M_has se_M_has wi_M)) na_M_has (rm_lt (by decide) (by decide)) ⟨Nat.zero_le _, Nat.zero_le _⟩ k0 (at_M hk0) rfl rfl (Nat.le_of_ble_eq_true rfl) xd_M_valueOf_2 ?_
  refine aw_if_eq (tgt := 27) C xd_M_valueOf_5 (by decide) (fun c_5 => ?_) (fun c_5 => ?_)
  · rw [if_pos c_5] at hm
    refine aw_iconst (v := (0 : Int32)) C xd_M_valueOf_27 (by decide) ?_
    cases hm
    exact aw_iret C xd_M_valueOf_28
  · rw [if_neg c_5] at hm
    refine aw_aload_n C 0 xd_M_valueOf_8 rfl rfl ?_
    refine aw_get C k0 (kd_lt hk0) (ly_M hk0) rfl (fun w h => List.mem_cons_of_mem _ (xi_M w h)) 0 (by decide) rfl (List.mem_cons_of_mem _ fl_M_11) xd_M_valueOf_9 ?_
    refine aw_iload_n C 1 xd_M_valueOf_12 rfl rfl ?_
    obtain ⟨g_13, hm⟩ := aw_grd hm
    refine aw_aald C (k0 + 1) (kd_lt (kf_M_images hk0)) 3 (ly_I6 (kf_M_images hk0)) rfl (aw_in_ok g_13) (if_pos (aw_in_lt g_13)) xd_M_valueOf_13 ?_
    refine aw_get C (k0 + 1 + 2 + 11 * (Int32.toNatClampNeg a1)) (kd_lt (ka_I6 (kf_M_images hk0) (aw_in_lt g_13))) (ly_I (ka_I6 (kf_M_images hk0) (aw_in_lt g_13))) rfl (fun w h => List.mem_cons_of_mem _ (xi_I w h)) 0 (by decide) rfl (List.mem_cons_of_mem _ fl_M_26) xd_M_valueOf_14 ?_
    refine aw_get C ((k0 + 1 + 2 + 11 * (Int32.toNatClampNeg a1)) + 1) (kd_lt (kf_I_unit (ka_I6 (kf_M_images hk0) (aw_in_lt g_13)))) (ly_U (kf_I_unit (ka_I6 (kf_M_images hk0) (aw_in_lt g_13)))) rfl (fun w h => List.mem_cons_of_mem _ (xi_U w h)) 5 (by decide) rfl (List.mem_cons_of_mem _ fl_M_39) xd_M_valueOf_17 ?_
    refine aw_iload_n C 2 xd_M_valueOf_20 rfl rfl ?_
    obtain ⟨q_21, e_21, hm⟩ := aw_bnd hm
    refine aw_callVi (As := [.int a2]) (rest := []) (b := ad (((k0 + 1 + 2 + 11 * (Int32.toNatClampNeg a1)) + 1) + 3)) C (xc_C_hasVariable σ (((k0 + 1 + 2 + 11 * (Int32.toNatClampNeg a1)) + 1) + 3) a2 _ (kf_U_code (kf_I_unit (ka_I6 (kf_M_images hk0) (aw_in_lt g_13)))) e_21) rfl (gw_sub (gw_V xg_C_hasVariable ml_M_56 im_C_hasVariable se_C_hasVariable wi_C)) na_C_hasVariable (rm_lt (by decide) (by decide)) ⟨Nat.zero_le _, Nat.zero_le _⟩ (((k0 + 1 + 2 + 11 * (Int32.toNatClampNeg a1)) + 1) + 3) (at_C (kf_U_code (kf_I_unit (ka_I6 (kf_M_images hk0) (aw_in_lt g_13))))) rfl rfl (Nat.le_of_ble_eq_true rfl) xd_M_valueOf_21 ?_
    refine aw_if_ne (tgt := 29) C xd_M_valueOf_24 (by decide) (fun c_24 => ?_) (fun c_24 => ?_)
    · rw [if_neg c_24] at hm
      refine aw_aload_n C 0 xd_M_valueOf_29 rfl rfl ?_
      refine aw_get C k0 (kd_lt hk0) (ly_M hk0) rfl (fun w h => List.mem_cons_of_mem _ (xi_M w h)) 0 (by decide) rfl (List.mem_cons_of_mem _ fl_M_11) xd_M_valueOf_30 ?_
      refine aw_iload_n C 1 xd_M_valueOf_33 rfl rfl ?_
      obtain ⟨g_34, hm⟩ := aw_grd hm
      refine aw_aald C (k0 + 1) (kd_lt (kf_M_images hk0)) 3 (ly_I6 (kf_M_images hk0)) rfl (aw_in_ok g_34) (if_pos (aw_in_lt g_34)) xd_M_valueOf_34 ?_
      refine aw_get C (k0 + 1 + 2 + 11 * (Int32.toNatClampNeg a1)) (kd_lt (ka_I6 (kf_M_images hk0) (aw_in_lt g_34))) (ly_I (ka_I6 (kf_M_images hk0) (aw_in_lt g_34))) rfl (fun w h => List.mem_cons_of_mem _ (xi_I w h)) 1 (by decide) rfl (List.mem_cons_of_mem _ fl_M_59) xd_M_valueOf_35 ?_
      refine aw_iload_n C 2 xd_M_valueOf_38 rfl rfl ?_
      obtain ⟨g_39, hm⟩ := aw_grd hm
      refine aw_iald C ((k0 + 1 + 2 + 11 * (Int32.toNatClampNeg a1)) + 10) (kd_lt (kf_I_values (ka_I6 (kf_M_images hk0) (aw_in_lt g_34)))) 0 (ly_A3 (kf_I_values (ka_I6 (kf_M_images hk0) (aw_in_lt g_34)))) rfl (aw_in_ok g_39) xd_M_valueOf_39 ?_
      cases hm
      exact aw_iret C xd_M_valueOf_40
    · rw [if_pos c_24] at hm
      refine aw_iconst (v := (0 : Int32)) C xd_M_valueOf_27 (by decide) ?_
      cases hm
      exact aw_iret C xd_M_valueOf_28
def xm_M_setValue (σ : aw_m) (k0 : Nat) (a1 : Int32) (a2 : Int32) (a3 : Int32) : Option aw_m := (xm_M_has σ k0 a1).bind fun q_2 => (if q_2 = 0 then some σ else if aw_in a1 6 = true then (xm_C_hasVariable σ (((k0 + 1 + 2 + 11 * (Int32.toNatClampNeg a1)) + 1) + 3) a2).bind fun q_21 => (if q_21 = 0 then some σ else if aw_in a1 6 = true then if aw_in a2 3 = true then aw_l (aw_p σ ((k0 + 1 + 2 + 11 * (Int32.toNatClampNeg a1)) + 10) (Int32.toNatClampNeg a2) a3) fun s_38 => some s_38 else none else none) else none)
set_option maxHeartbeats 4000000 in
set_option maxRecDepth 100000 in
theorem xc_M_setValue (σ : aw_m) (k0 : Nat) (a1 : Int32) (a2 : Int32) (a3 : Int32) (q : aw_m) (hk0 : kd_k k0 = 8) (hm : xm_M_setValue σ k0 a1 a2 a3 = some q) : aw_M l D (ty_z ids) (zs_T ps) xy_M_setValue (xw_M_setValue :: gw_l) (rm_D (2)) [.ref (ad k0), .int a1, .int a2, .int a3] (cw_w ad ids σ) none (cw_w ad ids q) := by
  refine aw_intro (cc := xb_M_setValue) (n := 4) (ret := none) "ModuleShelf$Memory" rfl (by decide) rfl (Nat.le_of_ble_eq_true rfl) ?_
  intro κ C
  unfold xm_M_setValue at hm
  refine aw_aload_n C 0 xd_M_setValue_0 rfl rfl ?_
  refine aw_iload_n C 1 xd_M_setValue_1 rfl rfl ?_
  obtain ⟨q_2, e_2, hm⟩ := aw_bnd hm
  refine aw_callVi (As := [.int a1]) (rest := []) (b := ad k0) C (xc_M_has σ k0 a1 _ hk0 e_2) rfl (gw_sub (gw_V xg_M_has ml_M_36 im_M_has se_M_has wi_M)) na_M_has (rm_lt (by decide) (by decide)) ⟨Nat.zero_le _, Nat.zero_le _⟩ k0 (at_M hk0) rfl rfl (Nat.le_of_ble_eq_true rfl) xd_M_setValue_2 ?_
  refine aw_if_eq (tgt := 39) C xd_M_setValue_5 (by decide) (fun c_5 => ?_) (fun c_5 => ?_)
  · rw [if_pos c_5] at hm
    cases hm
    exact aw_vret C xd_M_setValue_39
  · rw [if_neg c_5] at hm
    refine aw_aload_n C 0 xd_M_setValue_8 rfl rfl ?_
    refine aw_get C k0 (kd_lt hk0) (ly_M hk0) rfl (fun w h => List.mem_cons_of_mem _ (xi_M w h)) 0 (by decide) rfl (List.mem_cons_of_mem _ fl_M_11) xd_M_setValue_9 ?_
    refine aw_iload_n C 1 xd_M_setValue_12 rfl rfl ?_
    obtain ⟨g_13, hm⟩ := aw_grd hm
    refine aw_aald C (k0 + 1) (kd_lt (kf_M_images hk0)) 3 (ly_I6 (kf_M_images hk0)) rfl (aw_in_ok g_13) (if_pos (aw_in_lt g_13)) xd_M_setValue_13 ?_
    refine aw_get C (k0 + 1 + 2 + 11 * (Int32.toNatClampNeg a1)) (kd_lt (ka_I6 (kf_M_images hk0) (aw_in_lt g_13))) (ly_I (ka_I6 (kf_M_images hk0) (aw_in_lt g_13))) rfl (fun w h => List.mem_cons_of_mem _ (xi_I w h)) 0 (by decide) rfl (List.mem_cons_of_mem _ fl_M_26) xd_M_setValue_14 ?_
    refine aw_get C ((k0 + 1 + 2 + 11 * (Int32.toNatClampNeg a1)) + 1) (kd_lt (kf_I_unit (ka_I6 (kf_M_images hk0) (aw_in_lt g_13)))) (ly_U (kf_I_unit (ka_I6 (kf_M_images hk0) (aw_in_lt g_13)))) rfl (fun w h => List.mem_cons_of_mem _ (xi_U w h)) 5 (by decide) rfl (List.mem_cons_of_mem _ fl_M_39) xd_M_setValue_17 ?_
    refine aw_iload_n C 2 xd_M_setValue_20 rfl rfl ?_
    obtain ⟨q_21, e_21, hm⟩ := aw_bnd hm
    refine aw_callVi (As := [.int a2]) (rest := []) (b := ad (((k0 + 1 + 2 + 11 * (Int32.toNatClampNeg a1)) + 1) + 3)) C (xc_C_hasVariable σ (((k0 + 1 + 2 + 11 * (Int32.toNatClampNeg a1)) + 1) + 3) a2 _ (kf_U_code (kf_I_unit (ka_I6 (kf_M_images hk0) (aw_in_lt g_13)))) e_21) rfl (gw_sub (gw_V xg_C_hasVariable ml_M_56 im_C_hasVariable se_C_hasVariable wi_C)) na_C_hasVariable (rm_lt (by decide) (by decide)) ⟨Nat.zero_le _, Nat.zero_le _⟩ (((k0 + 1 + 2 + 11 * (Int32.toNatClampNeg a1)) + 1) + 3) (at_C (kf_U_code (kf_I_unit (ka_I6 (kf_M_images hk0) (aw_in_lt g_13))))) rfl rfl (Nat.le_of_ble_eq_true rfl) xd_M_setValue_21 ?_
    refine aw_if_eq (tgt := 39) C xd_M_setValue_24 (by decide) (fun c_24 => ?_) (fun c_24 => ?_)
    · rw [if_pos c_24] at hm
      cases hm
      exact aw_vret C xd_M_setValue_39
    · rw [if_neg c_24] at hm
      refine aw_aload_n C 0 xd_M_setValue_27 rfl rfl ?_
      refine aw_get C k0 (kd_lt hk0) (ly_M hk0) rfl (fun w h => List.mem_cons_of_mem _ (xi_M w h)) 0 (by decide) rfl (List.mem_cons_of_mem _ fl_M_11) xd_M_setValue_28 ?_
      refine aw_iload_n C 1 xd_M_setValue_31 rfl rfl ?_
      obtain ⟨g_32, hm⟩ := aw_grd hm
      refine aw_aald C (k0 + 1) (kd_lt (kf_M_images hk0)) 3 (ly_I6 (kf_M_images hk0)) rfl (aw_in_ok g_32) (if_pos (aw_in_lt g_32)) xd_M_setValue_32 ?_
      refine aw_get C (k0 + 1 + 2 + 11 * (Int32.toNatClampNeg a1)) (kd_lt (ka_I6 (kf_M_images hk0) (aw_in_lt g_32))) (ly_I (ka_I6 (kf_M_images hk0) (aw_in_lt g_32))) rfl (fun w h => List.mem_cons_of_mem _ (xi_I w h)) 1 (by decide) rfl (List.mem_cons_of_mem _ fl_M_59) xd_M_setValue_33 ?_
      refine aw_iload_n C 2 xd_M_setValue_36 rfl rfl ?_
      refine aw_iload_n C 3 xd_M_setValue_37 rfl rfl ?_
      obtain ⟨g_38, hm⟩ := aw_grd hm
      obtain ⟨s_38, h_38, hm⟩ := aw_let hm
      refine aw_iast (σ1 := s_38) (g := upd (σ ((k0 + 1 + 2 + 11 * (Int32.toNatClampNeg a1)) + 10)) (Int32.toNatClampNeg a2) a3) C ((k0 + 1 + 2 + 11 * (Int32.toNatClampNeg a1)) + 10) (kd_lt (kf_I_values (ka_I6 (kf_M_images hk0) (aw_in_lt g_32)))) 0 (ly_A3 (kf_I_values (ka_I6 (kf_M_images hk0) (aw_in_lt g_32)))) rfl (aw_in_ok g_38) (ly_A3 (kf_I_values (ka_I6 (kf_M_images hk0) (aw_in_lt g_32)))) h_38 xd_M_setValue_38 ?_
      cases hm
      exact aw_vret C xd_M_setValue_39
def xq_M_dropBegun_2  : Nat → aw_m → Nat → Int32 → Option aw_m
  | 0, _, _, _ => none
  | n + 1, σ, j0, v1 => (if (6 : Int32) ≤ v1 then some σ else if aw_in v1 6 = true then (if σ (j0 + 2) (Int32.toNatClampNeg v1) = 0 then xq_M_dropBegun_2 n σ j0 (v1 + (1 : Int32)) else if aw_in v1 6 = true then aw_l (aw_p σ ((j0 + 1 + 2 + 11 * (Int32.toNatClampNeg v1)) + 1) 0 (0 : Int32)) fun s_27 => xq_M_dropBegun_2 n s_27 j0 (v1 + (1 : Int32)) else none) else none)
def xm_M_dropBegun (σ : aw_m) (k0 : Nat) : Option aw_m := xq_M_dropBegun_2 64 σ k0 (0 : Int32)
set_option maxHeartbeats 4000000 in
set_option maxRecDepth 100000 in
theorem xl_M_dropBegun_2  {κ : aw_K} (q : aw_m) (C : aw_X l D (ty_z ids) (zs_T ps) (rm_D (0)) xb_M_dropBegun 2 "ModuleShelf$Memory" (xw_M_dropBegun :: gw_l) none none (cw_w ad ids q) κ) : ∀ (n : Nat) (σ : aw_m) (j0 : Nat) (v1 : Int32) (hj0 : kd_k j0 = 8), xq_M_dropBegun_2 n σ j0 v1 = some q → aw_J κ 0 0 (cw_w ad ids σ) [(0, .ref (ad j0)), (1, .int v1)] 2 [] := by
  intro n
  induction n with
  | zero => intro σ j0 v1 hj0 hm; cases hm
  | succ n ih =>
    intro σ j0 v1 hj0 hm
    rw [xq_M_dropBegun_2] at hm
    refine aw_iload_n C 1 xd_M_dropBegun_2 rfl rfl ?_
    refine aw_bipush (v := (6 : Int32)) C xd_M_dropBegun_3 (by decide) ?_
    refine aw_icmp_ge (tgt := 36) C xd_M_dropBegun_5 (by decide) (fun c_5 => ?_) (fun c_5 => ?_)
    · rw [if_pos c_5] at hm
      cases hm
      exact aw_vret C xd_M_dropBegun_36
    · rw [if_neg c_5] at hm
      refine aw_aload_n C 0 xd_M_dropBegun_8 rfl rfl ?_
      refine aw_get C j0 (kd_lt hj0) (ly_M hj0) rfl (fun w h => List.mem_cons_of_mem _ (xi_M w h)) 1 (by decide) rfl (List.mem_cons_of_mem _ fl_M_17) xd_M_dropBegun_9 ?_
      refine aw_iload_n C 1 xd_M_dropBegun_12 rfl rfl ?_
      obtain ⟨g_13, hm⟩ := aw_grd hm
      refine aw_zald C (j0 + 2) (kd_lt (kf_M_begun hj0)) 1 (ly_Z6 (kf_M_begun hj0)) rfl (aw_in_ok g_13) xd_M_dropBegun_13 ?_
      refine aw_if_eq (tgt := 30) C xd_M_dropBegun_14 (by decide) (fun c_14 => ?_) (fun c_14 => ?_)
      · rw [if_pos c_14] at hm
        refine aw_iinc (j := 1) (v := v1 + (1 : Int32)) (L' := [(1, .int (v1 + (1 : Int32))), (0, .ref (ad j0))]) C xd_M_dropBegun_30 rfl rfl (by decide) rfl ?_
        refine aw_goto (tgt := 2) C xd_M_dropBegun_33 (by decide) ?_
        refine aw_loc (L' := [(0, .ref (ad j0)), (1, .int (v1 + (1 : Int32)))]) C [1, 0] rfl ?_
        exact ih σ j0 (v1 + (1 : Int32)) hj0 hm
      · rw [if_neg c_14] at hm
        refine aw_aload_n C 0 xd_M_dropBegun_17 rfl rfl ?_
        refine aw_get C j0 (kd_lt hj0) (ly_M hj0) rfl (fun w h => List.mem_cons_of_mem _ (xi_M w h)) 0 (by decide) rfl (List.mem_cons_of_mem _ fl_M_11) xd_M_dropBegun_18 ?_
        refine aw_iload_n C 1 xd_M_dropBegun_21 rfl rfl ?_
        obtain ⟨g_22, hm⟩ := aw_grd hm
        refine aw_aald C (j0 + 1) (kd_lt (kf_M_images hj0)) 3 (ly_I6 (kf_M_images hj0)) rfl (aw_in_ok g_22) (if_pos (aw_in_lt g_22)) xd_M_dropBegun_22 ?_
        refine aw_get C (j0 + 1 + 2 + 11 * (Int32.toNatClampNeg v1)) (kd_lt (ka_I6 (kf_M_images hj0) (aw_in_lt g_22))) (ly_I (ka_I6 (kf_M_images hj0) (aw_in_lt g_22))) rfl (fun w h => List.mem_cons_of_mem _ (xi_I w h)) 0 (by decide) rfl (List.mem_cons_of_mem _ fl_M_26) xd_M_dropBegun_23 ?_
        refine aw_iconst (v := (0 : Int32)) C xd_M_dropBegun_26 (by decide) ?_
        obtain ⟨s_27, h_27, hm⟩ := aw_let hm
        refine aw_put (σ1 := s_27) (f := upd (σ ((j0 + 1 + 2 + 11 * (Int32.toNatClampNeg v1)) + 1)) 0 (0 : Int32)) C ((j0 + 1 + 2 + 11 * (Int32.toNatClampNeg v1)) + 1) (kd_lt (kf_I_unit (ka_I6 (kf_M_images hj0) (aw_in_lt g_22)))) (ly_U (kf_I_unit (ka_I6 (kf_M_images hj0) (aw_in_lt g_22)))) rfl (fun w h => List.mem_cons_of_mem _ (xi_U w h)) xk_U xo_U xn_U 0 (by decide) (List.mem_cons_of_mem _ fl_M_30) rfl (ty := .boolean) (by decide +kernel) rfl rfl (Nat.le_of_ble_eq_true rfl) (ly_U (kf_I_unit (ka_I6 (kf_M_images hj0) (aw_in_lt g_22)))) h_27 xd_M_dropBegun_27 ?_
        refine aw_iinc (j := 1) (v := v1 + (1 : Int32)) (L' := [(1, .int (v1 + (1 : Int32))), (0, .ref (ad j0))]) C xd_M_dropBegun_30 rfl rfl (by decide) rfl ?_
        refine aw_goto (tgt := 2) C xd_M_dropBegun_33 (by decide) ?_
        refine aw_loc (L' := [(0, .ref (ad j0)), (1, .int (v1 + (1 : Int32)))]) C [1, 0] rfl ?_
        exact ih s_27 j0 (v1 + (1 : Int32)) hj0 hm
set_option maxHeartbeats 4000000 in
set_option maxRecDepth 100000 in
theorem xc_M_dropBegun (σ : aw_m) (k0 : Nat) (q : aw_m) (hk0 : kd_k k0 = 8) (hm : xm_M_dropBegun σ k0 = some q) : aw_M l D (ty_z ids) (zs_T ps) xy_M_dropBegun (xw_M_dropBegun :: gw_l) (rm_D (0)) [.ref (ad k0)] (cw_w ad ids σ) none (cw_w ad ids q) := by
  refine aw_intro (cc := xb_M_dropBegun) (n := 2) (ret := none) "ModuleShelf$Memory" rfl (by decide) rfl (Nat.le_of_ble_eq_true rfl) ?_
  intro κ C
  unfold xm_M_dropBegun at hm
  refine aw_iconst (v := (0 : Int32)) C xd_M_dropBegun_0 (by decide) ?_
  refine aw_istore_n (L' := [(1, .int (0 : Int32)), (0, .ref (ad k0))]) C xd_M_dropBegun_1 rfl (by decide) rfl ?_
  refine aw_loc (L' := [(0, .ref (ad k0)), (1, .int (0 : Int32))]) C [1, 0] rfl ?_
  exact xl_M_dropBegun_2 _ C 64 σ k0 (0 : Int32) hk0 hm
def xq_M_bringOne_57 (W : aw_m → Nat → Nat → Int32 → Int32 → Option (Int32 × aw_m))  : Nat → aw_m → Nat → Nat → Int32 → Int32 → Nat → Int32 → Option (Int32 × aw_m)
  | 0, _, _, _, _, _, _, _ => none
  | n + 1, σ, j0, j1, v2, v3, j4, v5 => (if σ j4 2 ≤ v5 then (xm_M_size σ j0).bind fun q_133 => (xm_C_size σ (j4 + 3)).bind fun q_141 => (if q_133 + q_141 ≤ (50 : Int32) then if aw_in v2 6 = true then (xm_I_fill σ (j0 + 1 + 2 + 11 * (Int32.toNatClampNeg v2)) j4).bind fun q_161 => some ((0 : Int32), q_161) else none else some ((-2 : Int32), σ)) else if aw_in v5 6 = true then (W σ j0 j1 (σ (j4 + 1) (Int32.toNatClampNeg v5)) (v3 + (1 : Int32))).bind fun q_80 => (if q_80.1 = 0 then if aw_in v5 6 = true then if aw_in (q_80.2 (j4 + 1) (Int32.toNatClampNeg v5)) 6 = true then if aw_in v5 6 = true then (if q_80.2 ((j0 + 1 + 2 + 11 * (Int32.toNatClampNeg (q_80.2 (j4 + 1) (Int32.toNatClampNeg v5)))) + 1) 1 = q_80.2 (j4 + 2) (Int32.toNatClampNeg v5) then xq_M_bringOne_57 W n q_80.2 j0 j1 v2 v3 j4 (v5 + (1 : Int32)) else some ((-5 : Int32), q_80.2)) else none else none else none else some (q_80.1, q_80.2)) else none)
def xm_M_bringOne_b (W : aw_m → Nat → Nat → Int32 → Int32 → Option (Int32 × aw_m)) (σ : aw_m) (k0 : Nat) (k1 : Nat) (a2 : Int32) (a3 : Int32) : Option (Int32 × aw_m) := (xm_M_has σ k0 a2).bind fun q_2 => (if q_2 = 0 then (if (6 : Int32) ≤ a3 then some ((-6 : Int32), σ) else if aw_in a2 6 = true then (if σ (k0 + 2) (Int32.toNatClampNeg a2) = 0 then (xm_L_has σ k1 a2).bind fun q_30 => (if q_30 = 0 then some ((-4 : Int32), σ) else if aw_in a2 6 = true then aw_l (aw_p σ (k0 + 2) (Int32.toNatClampNeg a2) (1 : Int32)) fun s_45 => if aw_in a2 6 = true then xq_M_bringOne_57 W 64 s_45 k0 k1 a2 a3 (k1 + 1 + 1 + 9 * (Int32.toNatClampNeg a2)) (0 : Int32) else none else none) else some ((-6 : Int32), σ)) else none) else some ((0 : Int32), σ))
def xm_M_bringOne : Nat → aw_m → Nat → Nat → Int32 → Int32 → Option (Int32 × aw_m)
  | 0 => fun _ _ _ _ _ => none
  | d + 1 => xm_M_bringOne_b (xm_M_bringOne d)
set_option maxHeartbeats 4000000 in
set_option maxRecDepth 100000 in
theorem xl_M_bringOne_57 (W : aw_m → Nat → Nat → Int32 → Int32 → Option (Int32 × aw_m)) (dw : Nat) (hW : ∀ (σ : aw_m) (k0 : Nat) (k1 : Nat) (a2 : Int32) (a3 : Int32) (q : Int32 × aw_m) (hk0 : kd_k k0 = 8) (hk1 : kd_k k1 = 4), W σ k0 k1 a2 a3 = some q → aw_M l D (ty_z ids) (zs_T ps) xy_M_bringOne (xw_M_bringOne :: gw_l) (rm_D (dw)) [.ref (ad k0), .ref (ad k1), .int a2, .int a3] (cw_w ad ids σ) (some (.int q.1)) (cw_w ad ids q.2))  {κ : aw_K} (q : Int32 × aw_m) (C : aw_X l D (ty_z ids) (zs_T ps) (rm_D (dw + 4)) xb_M_bringOne 7 "ModuleShelf$Memory" (xw_M_bringOne :: gw_l) (some .int) (some (.int q.1)) (cw_w ad ids q.2) κ) : ∀ (n : Nat) (σ : aw_m) (j0 : Nat) (j1 : Nat) (v2 : Int32) (v3 : Int32) (j4 : Nat) (v5 : Int32) (hj0 : kd_k j0 = 8) (hj1 : kd_k j1 = 4) (hj4 : kd_k j4 = 6), xq_M_bringOne_57 W n σ j0 j1 v2 v3 j4 v5 = some q → aw_J κ 0 0 (cw_w ad ids σ) [(0, .ref (ad j0)), (1, .ref (ad j1)), (2, .int v2), (3, .int v3), (4, .ref (ad j4)), (5, .int v5)] 57 [] := by
  intro n
  induction n with
  | zero => intro σ j0 j1 v2 v3 j4 v5 hj0 hj1 hj4 hm; cases hm
  | succ n ih =>
    intro σ j0 j1 v2 v3 j4 v5 hj0 hj1 hj4 hm
    rw [xq_M_bringOne_57] at hm
    refine aw_iload C 5 xd_M_bringOne_57 rfl ?_
    refine aw_aload C 4 xd_M_bringOne_59 rfl ?_
    refine aw_get C j4 (kd_lt hj4) (ly_U hj4) rfl (fun w h => List.mem_cons_of_mem _ (xi_U w h)) 2 (by decide) rfl (List.mem_cons_of_mem _ fl_M_80) xd_M_bringOne_61 ?_
    refine aw_icmp_ge (tgt := 132) C xd_M_bringOne_64 (by decide) (fun c_64 => ?_) (fun c_64 => ?_)
    · rw [if_pos c_64] at hm
      refine aw_aload_n C 0 xd_M_bringOne_132 rfl rfl ?_
      obtain ⟨q_133, e_133, hm⟩ := aw_bnd hm
      refine aw_callVi (As := []) (rest := []) (b := ad j0) C (xc_M_size σ j0 _ hj0 e_133) rfl (gw_sub (gw_V xg_M_size ml_M_93 im_M_size se_M_size wi_M)) na_M_size (rm_lt (by omega) (by decide)) ⟨Nat.zero_le _, Nat.zero_le _⟩ j0 (at_M hj0) rfl rfl (Nat.le_of_ble_eq_true rfl) xd_M_bringOne_133 ?_
      refine aw_aload C 4 xd_M_bringOne_136 rfl ?_
      refine aw_get C j4 (kd_lt hj4) (ly_U hj4) rfl (fun w h => List.mem_cons_of_mem _ (xi_U w h)) 5 (by decide) rfl (List.mem_cons_of_mem _ fl_M_39) xd_M_bringOne_138 ?_
      obtain ⟨q_141, e_141, hm⟩ := aw_bnd hm
      refine aw_callVi (As := []) (rest := [.int q_133]) (b := ad (j4 + 3)) C (xc_C_size σ (j4 + 3) _ (kf_U_code hj4) e_141) rfl (gw_sub (gw_V xg_C_size ml_M_43 im_C_size se_C_size wi_C)) na_C_size (rm_lt (by omega) (by decide)) ⟨Nat.zero_le _, Nat.zero_le _⟩ (j4 + 3) (at_C (kf_U_code hj4)) rfl rfl (Nat.le_of_ble_eq_true rfl) xd_M_bringOne_141 ?_
      refine aw_iadd C xd_M_bringOne_144 ?_
      refine aw_bipush (v := (50 : Int32)) C xd_M_bringOne_145 (by decide) ?_
      refine aw_icmp_le (tgt := 153) C xd_M_bringOne_147 (by decide) (fun c_147 => ?_) (fun c_147 => ?_)
      · rw [if_pos c_147] at hm
        refine aw_aload_n C 0 xd_M_bringOne_153 rfl rfl ?_
        refine aw_get C j0 (kd_lt hj0) (ly_M hj0) rfl (fun w h => List.mem_cons_of_mem _ (xi_M w h)) 0 (by decide) rfl (List.mem_cons_of_mem _ fl_M_11) xd_M_bringOne_154 ?_
        refine aw_iload_n C 2 xd_M_bringOne_157 rfl rfl ?_
        obtain ⟨g_158, hm⟩ := aw_grd hm
        refine aw_aald C (j0 + 1) (kd_lt (kf_M_images hj0)) 3 (ly_I6 (kf_M_images hj0)) rfl (aw_in_ok g_158) (if_pos (aw_in_lt g_158)) xd_M_bringOne_158 ?_
        refine aw_aload C 4 xd_M_bringOne_159 rfl ?_
        obtain ⟨q_161, e_161, hm⟩ := aw_bnd hm
        refine aw_callVv (As := [.ref (ad j4)]) (rest := []) (b := ad (j0 + 1 + 2 + 11 * (Int32.toNatClampNeg v2))) C (xc_I_fill σ (j0 + 1 + 2 + 11 * (Int32.toNatClampNeg v2)) j4 _ (ka_I6 (kf_M_images hj0) (aw_in_lt g_158)) hj4 e_161) rfl (gw_sub (gw_V xg_I_fill ml_M_94 im_I_fill se_I_fill wi_I)) na_I_fill (rm_lt (by omega) (by decide)) ⟨Nat.zero_le _, Nat.zero_le _⟩ (j0 + 1 + 2 + 11 * (Int32.toNatClampNeg v2)) (at_I (ka_I6 (kf_M_images hj0) (aw_in_lt g_158))) rfl rfl (Nat.le_of_ble_eq_true rfl) xd_M_bringOne_161 ?_
        refine aw_iconst (v := (0 : Int32)) C xd_M_bringOne_164 (by decide) ?_
        cases hm
        exact aw_iret C xd_M_bringOne_165
      · rw [if_neg c_147] at hm
        refine aw_bipush (v := (-2 : Int32)) C xd_M_bringOne_150 (by decide) ?_
        cases hm
        exact aw_iret C xd_M_bringOne_152
    · rw [if_neg c_64] at hm
      refine aw_aload_n C 0 xd_M_bringOne_67 rfl rfl ?_
      refine aw_aload_n C 1 xd_M_bringOne_68 rfl rfl ?_
      refine aw_aload C 4 xd_M_bringOne_69 rfl ?_
      refine aw_get C j4 (kd_lt hj4) (ly_U hj4) rfl (fun w h => List.mem_cons_of_mem _ (xi_U w h)) 3 (by decide) rfl (List.mem_cons_of_mem _ fl_M_84) xd_M_bringOne_71 ?_
      refine aw_iload C 5 xd_M_bringOne_74 rfl ?_
      obtain ⟨g_76, hm⟩ := aw_grd hm
      refine aw_iald C (j4 + 1) (kd_lt (kf_U_importModules hj4)) 0 (ly_A6 (kf_U_importModules hj4)) rfl (aw_in_ok g_76) xd_M_bringOne_76 ?_
      refine aw_iload_n C 3 xd_M_bringOne_77 rfl rfl ?_
      refine aw_iconst (v := (1 : Int32)) C xd_M_bringOne_78 (by decide) ?_
      refine aw_iadd C xd_M_bringOne_79 ?_
      obtain ⟨q_80, e_80, hm⟩ := aw_bnd hm
      refine aw_callVi (As := [.ref (ad j1), .int (σ (j4 + 1) (Int32.toNatClampNeg v5)), .int (v3 + (1 : Int32))]) (rest := []) (b := ad j0) C (hW σ j0 j1 (σ (j4 + 1) (Int32.toNatClampNeg v5)) (v3 + (1 : Int32)) _ hj0 hj1 e_80) rfl (gw_sub (gw_V xg_M_bringOne ml_M_66 im_M_bringOne se_M_bringOne wi_M)) na_M_bringOne (rm_lt (by omega) (by decide)) ⟨Nat.zero_le _, Nat.zero_le _⟩ j0 (at_M hj0) rfl rfl (Nat.le_of_ble_eq_true rfl) xd_M_bringOne_80 ?_
      refine aw_istore (L' := [(6, .int q_80.1), (0, .ref (ad j0)), (1, .ref (ad j1)), (2, .int v2), (3, .int v3), (4, .ref (ad j4)), (5, .int v5)]) C xd_M_bringOne_83 (by decide) rfl ?_
      refine aw_iload C 0 xd_M_bringOne_85 rfl ?_
      refine aw_if_eq (tgt := 93) C xd_M_bringOne_87 (by decide) (fun c_87 => ?_) (fun c_87 => ?_)
      · rw [if_pos c_87] at hm
        refine aw_aload_n C 1 xd_M_bringOne_93 rfl rfl ?_
        refine aw_get C j0 (kd_lt hj0) (ly_M hj0) rfl (fun w h => List.mem_cons_of_mem _ (xi_M w h)) 0 (by decide) rfl (List.mem_cons_of_mem _ fl_M_11) xd_M_bringOne_94 ?_
        refine aw_aload C 5 xd_M_bringOne_97 rfl ?_
        refine aw_get C j4 (kd_lt hj4) (ly_U hj4) rfl (fun w h => List.mem_cons_of_mem _ (xi_U w h)) 3 (by decide) rfl (List.mem_cons_of_mem _ fl_M_84) xd_M_bringOne_99 ?_
        refine aw_iload C 6 xd_M_bringOne_102 rfl ?_
        obtain ⟨g_104, hm⟩ := aw_grd hm
        refine aw_iald C (j4 + 1) (kd_lt (kf_U_importModules hj4)) 0 (ly_A6 (kf_U_importModules hj4)) rfl (aw_in_ok g_104) xd_M_bringOne_104 ?_
        obtain ⟨g_105, hm⟩ := aw_grd hm
        refine aw_aald C (j0 + 1) (kd_lt (kf_M_images hj0)) 3 (ly_I6 (kf_M_images hj0)) rfl (aw_in_ok g_105) (if_pos (aw_in_lt g_105)) xd_M_bringOne_105 ?_
        refine aw_get C (j0 + 1 + 2 + 11 * (Int32.toNatClampNeg (q_80.2 (j4 + 1) (Int32.toNatClampNeg v5)))) (kd_lt (ka_I6 (kf_M_images hj0) (aw_in_lt g_105))) (ly_I (ka_I6 (kf_M_images hj0) (aw_in_lt g_105))) rfl (fun w h => List.mem_cons_of_mem _ (xi_I w h)) 0 (by decide) rfl (List.mem_cons_of_mem _ fl_M_26) xd_M_bringOne_106 ?_
        refine aw_get C ((j0 + 1 + 2 + 11 * (Int32.toNatClampNeg (q_80.2 (j4 + 1) (Int32.toNatClampNeg v5)))) + 1) (kd_lt (kf_I_unit (ka_I6 (kf_M_images hj0) (aw_in_lt g_105)))) (ly_U (kf_I_unit (ka_I6 (kf_M_images hj0) (aw_in_lt g_105)))) rfl (fun w h => List.mem_cons_of_mem _ (xi_U w h)) 1 (by decide) rfl (List.mem_cons_of_mem _ fl_M_87) xd_M_bringOne_109 ?_
        refine aw_aload C 5 xd_M_bringOne_112 rfl ?_
        refine aw_get C j4 (kd_lt hj4) (ly_U hj4) rfl (fun w h => List.mem_cons_of_mem _ (xi_U w h)) 4 (by decide) rfl (List.mem_cons_of_mem _ fl_M_90) xd_M_bringOne_114 ?_
        refine aw_iload C 6 xd_M_bringOne_117 rfl ?_
        obtain ⟨g_119, hm⟩ := aw_grd hm
        refine aw_iald C (j4 + 2) (kd_lt (kf_U_importKeys hj4)) 0 (ly_A6 (kf_U_importKeys hj4)) rfl (aw_in_ok g_119) xd_M_bringOne_119 ?_
        refine aw_icmp_eq (tgt := 126) C xd_M_bringOne_120 (by decide) (fun c_120 => ?_) (fun c_120 => ?_)
        · rw [if_pos c_120] at hm
          refine aw_iinc (j := 6) (v := v5 + (1 : Int32)) (L' := [(5, .int (v5 + (1 : Int32))), (6, .int q_80.1), (0, .ref (ad j0)), (1, .ref (ad j1)), (2, .int v2), (3, .int v3), (4, .ref (ad j4))]) C xd_M_bringOne_126 rfl rfl (by decide) rfl ?_
          refine aw_goto (tgt := 57) C xd_M_bringOne_129 (by decide) ?_
          refine aw_loc (L' := [(0, .ref (ad j0)), (1, .ref (ad j1)), (2, .int v2), (3, .int v3), (4, .ref (ad j4)), (5, .int (v5 + (1 : Int32)))]) C [2, 3, 4, 5, 6, 0] rfl ?_
          exact ih q_80.2 j0 j1 v2 v3 j4 (v5 + (1 : Int32)) hj0 hj1 hj4 hm
        · rw [if_neg c_120] at hm
          refine aw_bipush (v := (-5 : Int32)) C xd_M_bringOne_123 (by decide) ?_
          cases hm
          exact aw_iret C xd_M_bringOne_125
      · rw [if_neg c_87] at hm
        refine aw_iload C 0 xd_M_bringOne_90 rfl ?_
        cases hm
        exact aw_iret C xd_M_bringOne_92
set_option maxHeartbeats 4000000 in
set_option maxRecDepth 100000 in
theorem xc_M_bringOne_b (W : aw_m → Nat → Nat → Int32 → Int32 → Option (Int32 × aw_m)) (dw : Nat) (hW : ∀ (σ : aw_m) (k0 : Nat) (k1 : Nat) (a2 : Int32) (a3 : Int32) (q : Int32 × aw_m) (hk0 : kd_k k0 = 8) (hk1 : kd_k k1 = 4), W σ k0 k1 a2 a3 = some q → aw_M l D (ty_z ids) (zs_T ps) xy_M_bringOne (xw_M_bringOne :: gw_l) (rm_D (dw)) [.ref (ad k0), .ref (ad k1), .int a2, .int a3] (cw_w ad ids σ) (some (.int q.1)) (cw_w ad ids q.2)) (σ : aw_m) (k0 : Nat) (k1 : Nat) (a2 : Int32) (a3 : Int32) (q : Int32 × aw_m) (hk0 : kd_k k0 = 8) (hk1 : kd_k k1 = 4) (hm : xm_M_bringOne_b W σ k0 k1 a2 a3 = some q) : aw_M l D (ty_z ids) (zs_T ps) xy_M_bringOne (xw_M_bringOne :: gw_l) (rm_D (dw + 4)) [.ref (ad k0), .ref (ad k1), .int a2, .int a3] (cw_w ad ids σ) (some (.int q.1)) (cw_w ad ids q.2) := by
  refine aw_intro (cc := xb_M_bringOne) (n := 7) (ret := (some .int)) "ModuleShelf$Memory" rfl (by decide) rfl (Nat.le_of_ble_eq_true rfl) ?_
  intro κ C
  unfold xm_M_bringOne_b at hm
  refine aw_aload_n C 0 xd_M_bringOne_0 rfl rfl ?_
  refine aw_iload_n C 2 xd_M_bringOne_1 rfl rfl ?_
  obtain ⟨q_2, e_2, hm⟩ := aw_bnd hm
  refine aw_callVi (As := [.int a2]) (rest := []) (b := ad k0) C (xc_M_has σ k0 a2 _ hk0 e_2) rfl (gw_sub (gw_V xg_M_has ml_M_36 im_M_has se_M_has wi_M)) na_M_has (rm_lt (by omega) (by decide)) ⟨Nat.zero_le _, Nat.zero_le _⟩ k0 (at_M hk0) rfl rfl (Nat.le_of_ble_eq_true rfl) xd_M_bringOne_2 ?_
  refine aw_if_eq (tgt := 10) C xd_M_bringOne_5 (by decide) (fun c_5 => ?_) (fun c_5 => ?_)
  · rw [if_pos c_5] at hm
    refine aw_iload_n C 3 xd_M_bringOne_10 rfl rfl ?_
    refine aw_bipush (v := (6 : Int32)) C xd_M_bringOne_11 (by decide) ?_
    refine aw_icmp_ge (tgt := 25) C xd_M_bringOne_13 (by decide) (fun c_13 => ?_) (fun c_13 => ?_)
    · rw [if_pos c_13] at hm
      refine aw_bipush (v := (-6 : Int32)) C xd_M_bringOne_25 (by decide) ?_
      cases hm
      exact aw_iret C xd_M_bringOne_27
    · rw [if_neg c_13] at hm
      refine aw_aload_n C 0 xd_M_bringOne_16 rfl rfl ?_
      refine aw_get C k0 (kd_lt hk0) (ly_M hk0) rfl (fun w h => List.mem_cons_of_mem _ (xi_M w h)) 1 (by decide) rfl (List.mem_cons_of_mem _ fl_M_17) xd_M_bringOne_17 ?_
      refine aw_iload_n C 2 xd_M_bringOne_20 rfl rfl ?_
      obtain ⟨g_21, hm⟩ := aw_grd hm
      refine aw_zald C (k0 + 2) (kd_lt (kf_M_begun hk0)) 1 (ly_Z6 (kf_M_begun hk0)) rfl (aw_in_ok g_21) xd_M_bringOne_21 ?_
      refine aw_if_eq (tgt := 28) C xd_M_bringOne_22 (by decide) (fun c_22 => ?_) (fun c_22 => ?_)
      · rw [if_pos c_22] at hm
        refine aw_aload_n C 1 xd_M_bringOne_28 rfl rfl ?_
        refine aw_iload_n C 2 xd_M_bringOne_29 rfl rfl ?_
        obtain ⟨q_30, e_30, hm⟩ := aw_bnd hm
        refine aw_callVi (As := [.int a2]) (rest := []) (b := ad k1) C (xc_L_has σ k1 a2 _ hk1 e_30) rfl (gw_sub (gw_V xg_L_has ml_M_73 im_L_has se_L_has wi_L)) na_L_has (rm_lt (by omega) (by decide)) ⟨Nat.zero_le _, Nat.zero_le _⟩ k1 (at_L hk1) rfl rfl (Nat.le_of_ble_eq_true rfl) xd_M_bringOne_30 ?_
        refine aw_if_ne (tgt := 39) C xd_M_bringOne_33 (by decide) (fun c_33 => ?_) (fun c_33 => ?_)
        · rw [if_neg c_33] at hm
          refine aw_aload_n C 0 xd_M_bringOne_39 rfl rfl ?_
          refine aw_get C k0 (kd_lt hk0) (ly_M hk0) rfl (fun w h => List.mem_cons_of_mem _ (xi_M w h)) 1 (by decide) rfl (List.mem_cons_of_mem _ fl_M_17) xd_M_bringOne_40 ?_
          refine aw_iload_n C 2 xd_M_bringOne_43 rfl rfl ?_
          refine aw_iconst (v := (1 : Int32)) C xd_M_bringOne_44 (by decide) ?_
          obtain ⟨g_45, hm⟩ := aw_grd hm
          obtain ⟨s_45, h_45, hm⟩ := aw_let hm
          refine aw_zast (σ1 := s_45) (g := upd (σ (k0 + 2)) (Int32.toNatClampNeg a2) (1 : Int32)) C (k0 + 2) (kd_lt (kf_M_begun hk0)) 1 (ly_Z6 (kf_M_begun hk0)) rfl (aw_in_ok g_45) (by decide) (ly_Z6 (kf_M_begun hk0)) h_45 xd_M_bringOne_45 ?_
          refine aw_aload_n C 1 xd_M_bringOne_46 rfl rfl ?_
          refine aw_get C k1 (kd_lt hk1) (ly_L hk1) rfl (fun w h => List.mem_cons_of_mem _ (xi_L w h)) 0 (by decide) rfl (List.mem_cons_of_mem _ fl_M_76) xd_M_bringOne_47 ?_
          refine aw_iload_n C 2 xd_M_bringOne_50 rfl rfl ?_
          obtain ⟨g_51, hm⟩ := aw_grd hm
          refine aw_aald C (k1 + 1) (kd_lt (kf_L_units hk1)) 2 (ly_U6 (kf_L_units hk1)) rfl (aw_in_ok g_51) (if_pos (aw_in_lt g_51)) xd_M_bringOne_51 ?_
          refine aw_astore (L' := [(4, .ref (ad (k1 + 1 + 1 + 9 * (Int32.toNatClampNeg a2)))), (0, .ref (ad k0)), (1, .ref (ad k1)), (2, .int a2), (3, .int a3)]) C xd_M_bringOne_52 (by decide) rfl ?_
          refine aw_iconst (v := (0 : Int32)) C xd_M_bringOne_54 (by decide) ?_
          refine aw_istore (L' := [(5, .int (0 : Int32)), (4, .ref (ad (k1 + 1 + 1 + 9 * (Int32.toNatClampNeg a2)))), (0, .ref (ad k0)), (1, .ref (ad k1)), (2, .int a2), (3, .int a3)]) C xd_M_bringOne_55 (by decide) rfl ?_
          refine aw_loc (L' := [(0, .ref (ad k0)), (1, .ref (ad k1)), (2, .int a2), (3, .int a3), (4, .ref (ad (k1 + 1 + 1 + 9 * (Int32.toNatClampNeg a2)))), (5, .int (0 : Int32))]) C [2, 3, 4, 5, 1, 0] rfl ?_
          exact xl_M_bringOne_57 W dw hW _ C 64 s_45 k0 k1 a2 a3 (k1 + 1 + 1 + 9 * (Int32.toNatClampNeg a2)) (0 : Int32) hk0 hk1 (ka_U6 (kf_L_units hk1) (aw_in_lt g_51)) hm
        · rw [if_pos c_33] at hm
          refine aw_bipush (v := (-4 : Int32)) C xd_M_bringOne_36 (by decide) ?_
          cases hm
          exact aw_iret C xd_M_bringOne_38
      · rw [if_neg c_22] at hm
        refine aw_bipush (v := (-6 : Int32)) C xd_M_bringOne_25 (by decide) ?_
        cases hm
        exact aw_iret C xd_M_bringOne_27
  · rw [if_neg c_5] at hm
    refine aw_iconst (v := (0 : Int32)) C xd_M_bringOne_8 (by decide) ?_
    cases hm
    exact aw_iret C xd_M_bringOne_9
theorem xc_M_bringOne (d : Nat) : ∀ (σ : aw_m) (k0 : Nat) (k1 : Nat) (a2 : Int32) (a3 : Int32) (q : Int32 × aw_m) (hk0 : kd_k k0 = 8) (hk1 : kd_k k1 = 4), xm_M_bringOne d σ k0 k1 a2 a3 = some q → aw_M l D (ty_z ids) (zs_T ps) xy_M_bringOne (xw_M_bringOne :: gw_l) (rm_D (4 * d)) [.ref (ad k0), .ref (ad k1), .int a2, .int a3] (cw_w ad ids σ) (some (.int q.1)) (cw_w ad ids q.2) := by
  induction d with
  | zero => intro σ k0 k1 a2 a3 q hk0 hk1 hm; cases hm
  | succ d ih =>
    intro σ k0 k1 a2 a3 q hk0 hk1 hm
    have h := xc_M_bringOne_b (xm_M_bringOne d) (4 * d) ih σ k0 k1 a2 a3 q hk0 hk1 hm
    exact h
def xq_M_bring_8  : Nat → aw_m → Nat → Nat → Int32 → Int32 → Int32 → Option (Int32 × aw_m)
  | 0, _, _, _, _, _, _ => none
  | n + 1, σ, j0, j1, v2, v3, v4 => (if (6 : Int32) ≤ v4 then (xm_M_bringOne 9 σ j0 j1 v2 (0 : Int32)).bind fun q_33 => (if q_33.1 = 0 then (xm_M_held q_33.2 j0).bind fun q_44 => some (q_44 - v3, q_33.2) else (xm_M_dropBegun q_33.2 j0).bind fun q_51 => some (q_33.1, q_51)) else if aw_in v4 6 = true then aw_l (aw_p σ (j0 + 2) (Int32.toNatClampNeg v4) (0 : Int32)) fun s_22 => xq_M_bring_8 n s_22 j0 j1 v2 v3 (v4 + (1 : Int32)) else none)
def xm_M_bring (σ : aw_m) (k0 : Nat) (k1 : Nat) (a2 : Int32) : Option (Int32 × aw_m) := (xm_M_held σ k0).bind fun q_1 => xq_M_bring_8 64 σ k0 k1 a2 q_1 (0 : Int32)
set_option maxHeartbeats 4000000 in
set_option maxRecDepth 100000 in
theorem xl_M_bring_8  {κ : aw_K} (q : Int32 × aw_m) (C : aw_X l D (ty_z ids) (zs_T ps) (rm_D (37)) xb_M_bring 5 "ModuleShelf$Memory" (xw_M_bring :: gw_l) (some .int) (some (.int q.1)) (cw_w ad ids q.2) κ) : ∀ (n : Nat) (σ : aw_m) (j0 : Nat) (j1 : Nat) (v2 : Int32) (v3 : Int32) (v4 : Int32) (hj0 : kd_k j0 = 8) (hj1 : kd_k j1 = 4), xq_M_bring_8 n σ j0 j1 v2 v3 v4 = some q → aw_J κ 0 0 (cw_w ad ids σ) [(0, .ref (ad j0)), (1, .ref (ad j1)), (2, .int v2), (3, .int v3), (4, .int v4)] 8 [] := by
  intro n
  induction n with
  | zero => intro σ j0 j1 v2 v3 v4 hj0 hj1 hm; cases hm
  | succ n ih =>
    intro σ j0 j1 v2 v3 v4 hj0 hj1 hm
    rw [xq_M_bring_8] at hm
    refine aw_iload C 4 xd_M_bring_8 rfl ?_
    refine aw_bipush (v := (6 : Int32)) C xd_M_bring_10 (by decide) ?_
    refine aw_icmp_ge (tgt := 29) C xd_M_bring_12 (by decide) (fun c_12 => ?_) (fun c_12 => ?_)
    · rw [if_pos c_12] at hm
      refine aw_aload_n C 0 xd_M_bring_29 rfl rfl ?_
      refine aw_aload_n C 1 xd_M_bring_30 rfl rfl ?_
      refine aw_iload_n C 2 xd_M_bring_31 rfl rfl ?_
      refine aw_iconst (v := (0 : Int32)) C xd_M_bring_32 (by decide) ?_
      obtain ⟨q_33, e_33, hm⟩ := aw_bnd hm
      refine aw_callVi (As := [.ref (ad j1), .int v2, .int (0 : Int32)]) (rest := []) (b := ad j0) C (xc_M_bringOne 9 σ j0 j1 v2 (0 : Int32) _ hj0 hj1 e_33) rfl (gw_sub (gw_V xg_M_bringOne ml_M_66 im_M_bringOne se_M_bringOne wi_M)) na_M_bringOne (rm_lt (by decide) (by decide)) ⟨Nat.zero_le _, Nat.zero_le _⟩ j0 (at_M hj0) rfl rfl (Nat.le_of_ble_eq_true rfl) xd_M_bring_33 ?_
      refine aw_istore (L' := [(4, .int q_33.1), (0, .ref (ad j0)), (1, .ref (ad j1)), (2, .int v2), (3, .int v3)]) C xd_M_bring_36 (by decide) rfl ?_
      refine aw_iload C 0 xd_M_bring_38 rfl ?_
      refine aw_if_ne (tgt := 50) C xd_M_bring_40 (by decide) (fun c_40 => ?_) (fun c_40 => ?_)
      · rw [if_neg c_40] at hm
        refine aw_aload_n C 1 xd_M_bring_50 rfl rfl ?_
        obtain ⟨q_51, e_51, hm⟩ := aw_bnd hm
        refine aw_callVv (As := []) (rest := []) (b := ad j0) C (xc_M_dropBegun q_33.2 j0 _ hj0 e_51) rfl (gw_sub (gw_V xg_M_dropBegun ml_M_70 im_M_dropBegun se_M_dropBegun wi_M)) na_M_dropBegun (rm_lt (by decide) (by decide)) ⟨Nat.zero_le _, Nat.zero_le _⟩ j0 (at_M hj0) rfl rfl (Nat.le_of_ble_eq_true rfl) xd_M_bring_51 ?_
        refine aw_iload C 0 xd_M_bring_54 rfl ?_
        cases hm
        exact aw_iret C xd_M_bring_56
      · rw [if_pos c_40] at hm
        refine aw_aload_n C 1 xd_M_bring_43 rfl rfl ?_
        obtain ⟨q_44, e_44, hm⟩ := aw_bnd hm
        refine aw_callVi (As := []) (rest := []) (b := ad j0) C (xc_M_held q_33.2 j0 _ hj0 e_44) rfl (gw_sub (gw_V xg_M_held ml_M_63 im_M_held se_M_held wi_M)) na_M_held (rm_lt (by decide) (by decide)) ⟨Nat.zero_le _, Nat.zero_le _⟩ j0 (at_M hj0) rfl rfl (Nat.le_of_ble_eq_true rfl) xd_M_bring_44 ?_
        refine aw_iload_n C 4 xd_M_bring_47 rfl rfl ?_
        refine aw_isub C xd_M_bring_48 ?_
        cases hm
        exact aw_iret C xd_M_bring_49
    · rw [if_neg c_12] at hm
      refine aw_aload_n C 0 xd_M_bring_15 rfl rfl ?_
      refine aw_get C j0 (kd_lt hj0) (ly_M hj0) rfl (fun w h => List.mem_cons_of_mem _ (xi_M w h)) 1 (by decide) rfl (List.mem_cons_of_mem _ fl_M_17) xd_M_bring_16 ?_
      refine aw_iload C 4 xd_M_bring_19 rfl ?_
      refine aw_iconst (v := (0 : Int32)) C xd_M_bring_21 (by decide) ?_
      obtain ⟨g_22, hm⟩ := aw_grd hm
      obtain ⟨s_22, h_22, hm⟩ := aw_let hm
      refine aw_zast (σ1 := s_22) (g := upd (σ (j0 + 2)) (Int32.toNatClampNeg v4) (0 : Int32)) C (j0 + 2) (kd_lt (kf_M_begun hj0)) 1 (ly_Z6 (kf_M_begun hj0)) rfl (aw_in_ok g_22) (by decide) (ly_Z6 (kf_M_begun hj0)) h_22 xd_M_bring_22 ?_
      refine aw_iinc (j := 4) (v := v4 + (1 : Int32)) (L' := [(4, .int (v4 + (1 : Int32))), (0, .ref (ad j0)), (1, .ref (ad j1)), (2, .int v2), (3, .int v3)]) C xd_M_bring_23 rfl rfl (by decide) rfl ?_
      refine aw_goto (tgt := 8) C xd_M_bring_26 (by decide) ?_
      refine aw_loc (L' := [(0, .ref (ad j0)), (1, .ref (ad j1)), (2, .int v2), (3, .int v3), (4, .int (v4 + (1 : Int32)))]) C [1, 2, 3, 4, 0] rfl ?_
      exact ih s_22 j0 j1 v2 v3 (v4 + (1 : Int32)) hj0 hj1 hm
set_option maxHeartbeats 4000000 in
set_option maxRecDepth 100000 in
theorem xc_M_bring (σ : aw_m) (k0 : Nat) (k1 : Nat) (a2 : Int32) (q : Int32 × aw_m) (hk0 : kd_k k0 = 8) (hk1 : kd_k k1 = 4) (hm : xm_M_bring σ k0 k1 a2 = some q) : aw_M l D (ty_z ids) (zs_T ps) xy_M_bring (xw_M_bring :: gw_l) (rm_D (37)) [.ref (ad k0), .ref (ad k1), .int a2] (cw_w ad ids σ) (some (.int q.1)) (cw_w ad ids q.2) := by
  refine aw_intro (cc := xb_M_bring) (n := 5) (ret := (some .int)) "ModuleShelf$Memory" rfl (by decide) rfl (Nat.le_of_ble_eq_true rfl) ?_
  intro κ C
  unfold xm_M_bring at hm
  refine aw_aload_n C 0 xd_M_bring_0 rfl rfl ?_
  obtain ⟨q_1, e_1, hm⟩ := aw_bnd hm
  refine aw_callVi (As := []) (rest := []) (b := ad k0) C (xc_M_held σ k0 _ hk0 e_1) rfl (gw_sub (gw_V xg_M_held ml_M_63 im_M_held se_M_held wi_M)) na_M_held (rm_lt (by decide) (by decide)) ⟨Nat.zero_le _, Nat.zero_le _⟩ k0 (at_M hk0) rfl rfl (Nat.le_of_ble_eq_true rfl) xd_M_bring_1 ?_
  refine aw_istore_n (L' := [(3, .int q_1), (0, .ref (ad k0)), (1, .ref (ad k1)), (2, .int a2)]) C xd_M_bring_4 rfl (by decide) rfl ?_
  refine aw_iconst (v := (0 : Int32)) C xd_M_bring_5 (by decide) ?_
  refine aw_istore (L' := [(4, .int (0 : Int32)), (3, .int q_1), (0, .ref (ad k0)), (1, .ref (ad k1)), (2, .int a2)]) C xd_M_bring_6 (by decide) rfl ?_
  refine aw_loc (L' := [(0, .ref (ad k0)), (1, .ref (ad k1)), (2, .int a2), (3, .int q_1), (4, .int (0 : Int32))]) C [2, 3, 4, 1, 0] rfl ?_
  exact xl_M_bring_8 _ C 64 σ k0 k1 a2 q_1 (0 : Int32) hk0 hk1 hm
end
