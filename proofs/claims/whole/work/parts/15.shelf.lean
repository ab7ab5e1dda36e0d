theorem xd_S_begin_0 : decode xb_S_begin 0 = .ok (.iload_n 1, 1) := by decide +kernel
theorem xd_S_begin_1 : decode xb_S_begin 1 = .ok (.ifCond .lt 8, 3) := by decide +kernel
theorem xd_S_begin_4 : decode xb_S_begin 4 = .ok (.iload_n 1, 1) := by decide +kernel
theorem xd_S_begin_5 : decode xb_S_begin 5 = .ok (.iconst 3, 1) := by decide +kernel
theorem xd_S_begin_6 : decode xb_S_begin 6 = .ok (.if_icmp .le 5, 3) := by decide +kernel
theorem xd_S_begin_9 : decode xb_S_begin 9 = .ok (.iconst (-1), 1) := by decide +kernel
theorem xd_S_begin_10 : decode xb_S_begin 10 = .ok (.ireturn, 1) := by decide +kernel
theorem xd_S_begin_11 : decode xb_S_begin 11 = .ok (.aload_n 0, 1) := by decide +kernel
theorem xd_S_begin_12 : decode xb_S_begin 12 = .ok (.getfield 10, 3) := by decide +kernel
theorem xd_S_begin_15 : decode xb_S_begin 15 = .ok (.iload_n 1, 1) := by decide +kernel
theorem xd_S_begin_16 : decode xb_S_begin 16 = .ok (.invokevirtual 44, 3) := by decide +kernel
theorem xd_S_begin_19 : decode xb_S_begin 19 = .ok (.iconst 0, 1) := by decide +kernel
theorem xd_S_begin_20 : decode xb_S_begin 20 = .ok (.ireturn, 1) := by decide +kernel
theorem xd_S_procedure_0 : decode xb_S_procedure 0 = .ok (.iload_n 1, 1) := by decide +kernel
theorem xd_S_procedure_1 : decode xb_S_procedure 1 = .ok (.ifCond .lt 8, 3) := by decide +kernel
theorem xd_S_procedure_4 : decode xb_S_procedure 4 = .ok (.iload_n 1, 1) := by decide +kernel
theorem xd_S_procedure_5 : decode xb_S_procedure 5 = .ok (.iconst 2, 1) := by decide +kernel
theorem xd_S_procedure_6 : decode xb_S_procedure 6 = .ok (.if_icmp .le 5, 3) := by decide +kernel
theorem xd_S_procedure_9 : decode xb_S_procedure 9 = .ok (.iconst (-1), 1) := by decide +kernel
theorem xd_S_procedure_10 : decode xb_S_procedure 10 = .ok (.ireturn, 1) := by decide +kernel
theorem xd_S_procedure_11 : decode xb_S_procedure 11 = .ok (.aload_n 0, 1) := by decide +kernel
theorem xd_S_procedure_12 : decode xb_S_procedure 12 = .ok (.getfield 10, 3) := by decide +kernel
theorem xd_S_procedure_15 : decode xb_S_procedure 15 = .ok (.iload_n 1, 1) := by decide +kernel
theorem xd_S_procedure_16 : decode xb_S_procedure 16 = .ok (.invokevirtual 48, 3) := by decide +kernel
theorem xd_S_procedure_19 : decode xb_S_procedure 19 = .ok (.ireturn, 1) := by decide +kernel
theorem xd_S_token_0 : decode xb_S_token 0 = .ok (.iload_n 1, 1) := by decide +kernel
theorem xd_S_token_1 : decode xb_S_token 1 = .ok (.ifCond .lt 9, 3) := by decide +kernel
theorem xd_S_token_4 : decode xb_S_token 4 = .ok (.iload_n 1, 1) := by decide +kernel
theorem xd_S_token_5 : decode xb_S_token 5 = .ok (.bipush 11, 2) := by decide +kernel
theorem xd_S_token_7 : decode xb_S_token 7 = .ok (.if_icmp .le 5, 3) := by decide +kernel
theorem xd_S_token_10 : decode xb_S_token 10 = .ok (.iconst (-1), 1) := by decide +kernel
theorem xd_S_token_11 : decode xb_S_token 11 = .ok (.ireturn, 1) := by decide +kernel
theorem xd_S_token_12 : decode xb_S_token 12 = .ok (.aload_n 0, 1) := by decide +kernel
theorem xd_S_token_13 : decode xb_S_token 13 = .ok (.getfield 10, 3) := by decide +kernel
theorem xd_S_token_16 : decode xb_S_token 16 = .ok (.iload_n 1, 1) := by decide +kernel
theorem xd_S_token_17 : decode xb_S_token 17 = .ok (.iload_n 2, 1) := by decide +kernel
theorem xd_S_token_18 : decode xb_S_token 18 = .ok (.iload_n 3, 1) := by decide +kernel
theorem xd_S_token_19 : decode xb_S_token 19 = .ok (.invokevirtual 52, 3) := by decide +kernel
theorem xd_S_token_22 : decode xb_S_token 22 = .ok (.ireturn, 1) := by decide +kernel
theorem xd_S_compile_0 : decode xb_S_compile 0 = .ok (.aload_n 0, 1) := by decide +kernel
theorem xd_S_compile_1 : decode xb_S_compile 1 = .ok (.iconst (-1), 1) := by decide +kernel
theorem xd_S_compile_2 : decode xb_S_compile 2 = .ok (.putfield 37, 3) := by decide +kernel
theorem xd_S_compile_5 : decode xb_S_compile 5 = .ok (.iload_n 1, 1) := by decide +kernel
theorem xd_S_compile_6 : decode xb_S_compile 6 = .ok (.invokestatic 56, 3) := by decide +kernel
theorem xd_S_compile_9 : decode xb_S_compile 9 = .ok (.ifCond .ne 5, 3) := by decide +kernel
theorem xd_S_compile_12 : decode xb_S_compile 12 = .ok (.iconst (-1), 1) := by decide +kernel
theorem xd_S_compile_13 : decode xb_S_compile 13 = .ok (.ireturn, 1) := by decide +kernel
theorem xd_S_compile_14 : decode xb_S_compile 14 = .ok (.aload_n 0, 1) := by decide +kernel
theorem xd_S_compile_15 : decode xb_S_compile 15 = .ok (.getfield 19, 3) := by decide +kernel
theorem xd_S_compile_18 : decode xb_S_compile 18 = .ok (.aload_n 0, 1) := by decide +kernel
theorem xd_S_compile_19 : decode xb_S_compile 19 = .ok (.getfield 10, 3) := by decide +kernel
theorem xd_S_compile_22 : decode xb_S_compile 22 = .ok (.iload_n 1, 1) := by decide +kernel
theorem xd_S_compile_23 : decode xb_S_compile 23 = .ok (.invokevirtual 60, 3) := by decide +kernel
theorem xd_S_compile_26 : decode xb_S_compile 26 = .ok (.istore_n 2, 1) := by decide +kernel
theorem xd_S_compile_27 : decode xb_S_compile 27 = .ok (.iload_n 2, 1) := by decide +kernel
theorem xd_S_compile_28 : decode xb_S_compile 28 = .ok (.iconst (-1), 1) := by decide +kernel
theorem xd_S_compile_29 : decode xb_S_compile 29 = .ok (.if_icmp .eq 11, 3) := by decide +kernel
theorem xd_S_compile_32 : decode xb_S_compile 32 = .ok (.aload_n 0, 1) := by decide +kernel
theorem xd_S_compile_33 : decode xb_S_compile 33 = .ok (.iload_n 2, 1) := by decide +kernel
theorem xd_S_compile_34 : decode xb_S_compile 34 = .ok (.putfield 37, 3) := by decide +kernel
theorem xd_S_compile_37 : decode xb_S_compile 37 = .ok (.bipush (-3), 2) := by decide +kernel
theorem xd_S_compile_39 : decode xb_S_compile 39 = .ok (.ireturn, 1) := by decide +kernel
theorem xd_S_compile_40 : decode xb_S_compile 40 = .ok (.aload_n 0, 1) := by decide +kernel
theorem xd_S_compile_41 : decode xb_S_compile 41 = .ok (.getfield 19, 3) := by decide +kernel
theorem xd_S_compile_44 : decode xb_S_compile 44 = .ok (.aload_n 0, 1) := by decide +kernel
theorem xd_S_compile_45 : decode xb_S_compile 45 = .ok (.getfield 10, 3) := by decide +kernel
theorem xd_S_compile_48 : decode xb_S_compile 48 = .ok (.iload_n 1, 1) := by decide +kernel
theorem xd_S_compile_49 : decode xb_S_compile 49 = .ok (.invokevirtual 64, 3) := by decide +kernel
theorem xd_S_compile_52 : decode xb_S_compile 52 = .ok (.ireturn, 1) := by decide +kernel
theorem xd_S_place_0 : decode xb_S_place 0 = .ok (.aload_n 0, 1) := by decide +kernel
theorem xd_S_place_1 : decode xb_S_place 1 = .ok (.getfield 37, 3) := by decide +kernel
theorem xd_S_place_4 : decode xb_S_place 4 = .ok (.ireturn, 1) := by decide +kernel
theorem xd_S_remove_0 : decode xb_S_remove 0 = .ok (.aload_n 0, 1) := by decide +kernel
theorem xd_S_remove_1 : decode xb_S_remove 1 = .ok (.getfield 19, 3) := by decide +kernel
theorem xd_S_remove_4 : decode xb_S_remove 4 = .ok (.iload_n 1, 1) := by decide +kernel
theorem xd_S_remove_5 : decode xb_S_remove 5 = .ok (.invokevirtual 67, 3) := by decide +kernel
theorem xd_S_remove_8 : decode xb_S_remove 8 = .ok (.ifCond .ne 5, 3) := by decide +kernel
theorem xd_S_remove_11 : decode xb_S_remove 11 = .ok (.iconst (-1), 1) := by decide +kernel
theorem xd_S_remove_12 : decode xb_S_remove 12 = .ok (.ireturn, 1) := by decide +kernel
theorem xd_S_remove_13 : decode xb_S_remove 13 = .ok (.aload_n 0, 1) := by decide +kernel
theorem xd_S_remove_14 : decode xb_S_remove 14 = .ok (.getfield 19, 3) := by decide +kernel
theorem xd_S_remove_17 : decode xb_S_remove 17 = .ok (.getfield 70, 3) := by decide +kernel
theorem xd_S_remove_20 : decode xb_S_remove 20 = .ok (.iload_n 1, 1) := by decide +kernel
theorem xd_S_remove_21 : decode xb_S_remove 21 = .ok (.aaload, 1) := by decide +kernel
theorem xd_S_remove_22 : decode xb_S_remove 22 = .ok (.iconst 0, 1) := by decide +kernel
theorem xd_S_remove_23 : decode xb_S_remove 23 = .ok (.putfield 74, 3) := by decide +kernel
theorem xd_S_remove_26 : decode xb_S_remove 26 = .ok (.iconst 0, 1) := by decide +kernel
theorem xd_S_remove_27 : decode xb_S_remove 27 = .ok (.ireturn, 1) := by decide +kernel
theorem xd_S_load_0 : decode xb_S_load 0 = .ok (.iload_n 1, 1) := by decide +kernel
theorem xd_S_load_1 : decode xb_S_load 1 = .ok (.invokestatic 56, 3) := by decide +kernel
theorem xd_S_load_4 : decode xb_S_load 4 = .ok (.ifCond .ne 5, 3) := by decide +kernel
theorem xd_S_load_7 : decode xb_S_load 7 = .ok (.iconst (-1), 1) := by decide +kernel
theorem xd_S_load_8 : decode xb_S_load 8 = .ok (.ireturn, 1) := by decide +kernel
theorem xd_S_load_9 : decode xb_S_load 9 = .ok (.aload_n 0, 1) := by decide +kernel
theorem xd_S_load_10 : decode xb_S_load 10 = .ok (.getfield 26, 3) := by decide +kernel
theorem xd_S_load_13 : decode xb_S_load 13 = .ok (.aload_n 0, 1) := by decide +kernel
theorem xd_S_load_14 : decode xb_S_load 14 = .ok (.getfield 19, 3) := by decide +kernel
theorem xd_S_load_17 : decode xb_S_load 17 = .ok (.iload_n 1, 1) := by decide +kernel
theorem xd_S_load_18 : decode xb_S_load 18 = .ok (.invokevirtual 80, 3) := by decide +kernel
theorem xd_S_load_21 : decode xb_S_load 21 = .ok (.ireturn, 1) := by decide +kernel
theorem xd_S_unload_0 : decode xb_S_unload 0 = .ok (.aload_n 0, 1) := by decide +kernel
theorem xd_S_unload_1 : decode xb_S_unload 1 = .ok (.getfield 26, 3) := by decide +kernel
theorem xd_S_unload_4 : decode xb_S_unload 4 = .ok (.iload_n 1, 1) := by decide +kernel
theorem xd_S_unload_5 : decode xb_S_unload 5 = .ok (.invokevirtual 84, 3) := by decide +kernel
theorem xd_S_unload_8 : decode xb_S_unload 8 = .ok (.ifCond .ne 5, 3) := by decide +kernel
theorem xd_S_unload_11 : decode xb_S_unload 11 = .ok (.iconst (-1), 1) := by decide +kernel
theorem xd_S_unload_12 : decode xb_S_unload 12 = .ok (.ireturn, 1) := by decide +kernel
theorem xd_S_unload_13 : decode xb_S_unload 13 = .ok (.aload_n 0, 1) := by decide +kernel
theorem xd_S_unload_14 : decode xb_S_unload 14 = .ok (.getfield 26, 3) := by decide +kernel
theorem xd_S_unload_17 : decode xb_S_unload 17 = .ok (.iload_n 1, 1) := by decide +kernel
theorem xd_S_unload_18 : decode xb_S_unload 18 = .ok (.invokevirtual 85, 3) := by decide +kernel
theorem xd_S_unload_21 : decode xb_S_unload 21 = .ok (.ifCond .eq 6, 3) := by decide +kernel
theorem xd_S_unload_24 : decode xb_S_unload 24 = .ok (.bipush (-7), 2) := by decide +kernel
theorem xd_S_unload_26 : decode xb_S_unload 26 = .ok (.ireturn, 1) := by decide +kernel
theorem xd_S_unload_27 : decode xb_S_unload 27 = .ok (.aload_n 0, 1) := by decide +kernel
theorem xd_S_unload_28 : decode xb_S_unload 28 = .ok (.getfield 26, 3) := by decide +kernel
theorem xd_S_unload_31 : decode xb_S_unload 31 = .ok (.getfield 88, 3) := by decide +kernel
theorem xd_S_unload_34 : decode xb_S_unload 34 = .ok (.iload_n 1, 1) := by decide +kernel
theorem xd_S_unload_35 : decode xb_S_unload 35 = .ok (.aaload, 1) := by decide +kernel
theorem xd_S_unload_36 : decode xb_S_unload 36 = .ok (.getfield 92, 3) := by decide +kernel
theorem xd_S_unload_39 : decode xb_S_unload 39 = .ok (.iconst 0, 1) := by decide +kernel
theorem xd_S_unload_40 : decode xb_S_unload 40 = .ok (.putfield 74, 3) := by decide +kernel
theorem xd_S_unload_43 : decode xb_S_unload 43 = .ok (.iconst 0, 1) := by decide +kernel
theorem xd_S_unload_44 : decode xb_S_unload 44 = .ok (.ireturn, 1) := by decide +kernel
theorem xd_S_run_0 : decode xb_S_run 0 = .ok (.aload_n 0, 1) := by decide +kernel
theorem xd_S_run_1 : decode xb_S_run 1 = .ok (.getfield 26, 3) := by decide +kernel
theorem xd_S_run_4 : decode xb_S_run 4 = .ok (.iload_n 1, 1) := by decide +kernel
theorem xd_S_run_5 : decode xb_S_run 5 = .ok (.iload_n 2, 1) := by decide +kernel
theorem xd_S_run_6 : decode xb_S_run 6 = .ok (.invokevirtual 98, 3) := by decide +kernel
theorem xd_S_run_9 : decode xb_S_run 9 = .ok (.iconst (-1), 1) := by decide +kernel
theorem xd_S_run_10 : decode xb_S_run 10 = .ok (.if_icmp .ne 5, 3) := by decide +kernel
theorem xd_S_run_13 : decode xb_S_run 13 = .ok (.iconst (-1), 1) := by decide +kernel
theorem xd_S_run_14 : decode xb_S_run 14 = .ok (.ireturn, 1) := by decide +kernel
theorem xd_S_run_15 : decode xb_S_run 15 = .ok (.aload_n 0, 1) := by decide +kernel
theorem xd_S_run_16 : decode xb_S_run 16 = .ok (.getfield 33, 3) := by decide +kernel
theorem xd_S_run_19 : decode xb_S_run 19 = .ok (.aload_n 0, 1) := by decide +kernel
theorem xd_S_run_20 : decode xb_S_run 20 = .ok (.getfield 26, 3) := by decide +kernel
theorem xd_S_run_23 : decode xb_S_run 23 = .ok (.iload_n 1, 1) := by decide +kernel
theorem xd_S_run_24 : decode xb_S_run 24 = .ok (.iload_n 2, 1) := by decide +kernel
theorem xd_S_run_25 : decode xb_S_run 25 = .ok (.iload_n 3, 1) := by decide +kernel
theorem xd_S_run_26 : decode xb_S_run 26 = .ok (.iload 4, 2) := by decide +kernel
theorem xd_S_run_28 : decode xb_S_run 28 = .ok (.invokevirtual 102, 3) := by decide +kernel
theorem xd_S_run_31 : decode xb_S_run 31 = .ok (.istore 5, 2) := by decide +kernel
theorem xd_S_run_33 : decode xb_S_run 33 = .ok (.aload_n 0, 1) := by decide +kernel
theorem xd_S_run_34 : decode xb_S_run 34 = .ok (.getfield 33, 3) := by decide +kernel
theorem xd_S_run_37 : decode xb_S_run 37 = .ok (.getfield 106, 3) := by decide +kernel
theorem xd_S_run_40 : decode xb_S_run 40 = .ok (.ifCond .eq 11, 3) := by decide +kernel
theorem xd_S_run_43 : decode xb_S_run 43 = .ok (.aload_n 0, 1) := by decide +kernel
theorem xd_S_run_44 : decode xb_S_run 44 = .ok (.getfield 33, 3) := by decide +kernel
theorem xd_S_run_47 : decode xb_S_run 47 = .ok (.getfield 106, 3) := by decide +kernel
theorem xd_S_run_50 : decode xb_S_run 50 = .ok (.ireturn, 1) := by decide +kernel
theorem xd_S_run_51 : decode xb_S_run 51 = .ok (.aload_n 0, 1) := by decide +kernel
theorem xd_S_run_52 : decode xb_S_run 52 = .ok (.iload 5, 2) := by decide +kernel
theorem xd_S_run_54 : decode xb_S_run 54 = .ok (.putfield 41, 3) := by decide +kernel
theorem xd_S_run_57 : decode xb_S_run 57 = .ok (.iconst 0, 1) := by decide +kernel
theorem xd_S_run_58 : decode xb_S_run 58 = .ok (.ireturn, 1) := by decide +kernel
theorem xd_S_value_0 : decode xb_S_value 0 = .ok (.aload_n 0, 1) := by decide +kernel
theorem xd_S_value_1 : decode xb_S_value 1 = .ok (.getfield 41, 3) := by decide +kernel
theorem xd_S_value_4 : decode xb_S_value 4 = .ok (.ireturn, 1) := by decide +kernel
theorem xd_S_steps_0 : decode xb_S_steps 0 = .ok (.aload_n 0, 1) := by decide +kernel
theorem xd_S_steps_1 : decode xb_S_steps 1 = .ok (.getfield 33, 3) := by decide +kernel
theorem xd_S_steps_4 : decode xb_S_steps 4 = .ok (.getfield 109, 3) := by decide +kernel
theorem xd_S_steps_7 : decode xb_S_steps 7 = .ok (.ireturn, 1) := by decide +kernel
theorem xd_S_variable_0 : decode xb_S_variable 0 = .ok (.aload_n 0, 1) := by decide +kernel
theorem xd_S_variable_1 : decode xb_S_variable 1 = .ok (.getfield 26, 3) := by decide +kernel
theorem xd_S_variable_4 : decode xb_S_variable 4 = .ok (.iload_n 1, 1) := by decide +kernel
theorem xd_S_variable_5 : decode xb_S_variable 5 = .ok (.iload_n 2, 1) := by decide +kernel
theorem xd_S_variable_6 : decode xb_S_variable 6 = .ok (.invokevirtual 112, 3) := by decide +kernel
theorem xd_S_variable_9 : decode xb_S_variable 9 = .ok (.ireturn, 1) := by decide +kernel
theorem xd_S_key_0 : decode xb_S_key 0 = .ok (.aload_n 0, 1) := by decide +kernel
theorem xd_S_key_1 : decode xb_S_key 1 = .ok (.getfield 19, 3) := by decide +kernel
theorem xd_S_key_4 : decode xb_S_key 4 = .ok (.iload_n 1, 1) := by decide +kernel
theorem xd_S_key_5 : decode xb_S_key 5 = .ok (.invokevirtual 67, 3) := by decide +kernel
theorem xd_S_key_8 : decode xb_S_key 8 = .ok (.ifCond .eq 18, 3) := by decide +kernel
theorem xd_S_key_11 : decode xb_S_key 11 = .ok (.aload_n 0, 1) := by decide +kernel
theorem xd_S_key_12 : decode xb_S_key 12 = .ok (.getfield 19, 3) := by decide +kernel
theorem xd_S_key_15 : decode xb_S_key 15 = .ok (.getfield 70, 3) := by decide +kernel
theorem xd_S_key_18 : decode xb_S_key 18 = .ok (.iload_n 1, 1) := by decide +kernel
theorem xd_S_key_19 : decode xb_S_key 19 = .ok (.aaload, 1) := by decide +kernel
theorem xd_S_key_20 : decode xb_S_key 20 = .ok (.getfield 115, 3) := by decide +kernel
theorem xd_S_key_23 : decode xb_S_key 23 = .ok (.goto 4, 3) := by decide +kernel
theorem xd_S_key_26 : decode xb_S_key 26 = .ok (.iconst (-1), 1) := by decide +kernel
theorem xd_S_key_27 : decode xb_S_key 27 = .ok (.ireturn, 1) := by decide +kernel
theorem xd_S_loaded_0 : decode xb_S_loaded 0 = .ok (.aload_n 0, 1) := by decide +kernel
theorem xd_S_loaded_1 : decode xb_S_loaded 1 = .ok (.getfield 26, 3) := by decide +kernel
theorem xd_S_loaded_4 : decode xb_S_loaded 4 = .ok (.iload_n 1, 1) := by decide +kernel
theorem xd_S_loaded_5 : decode xb_S_loaded 5 = .ok (.invokevirtual 84, 3) := by decide +kernel
theorem xd_S_loaded_8 : decode xb_S_loaded 8 = .ok (.ifCond .eq 21, 3) := by decide +kernel
theorem xd_S_loaded_11 : decode xb_S_loaded 11 = .ok (.aload_n 0, 1) := by decide +kernel
theorem xd_S_loaded_12 : decode xb_S_loaded 12 = .ok (.getfield 26, 3) := by decide +kernel
theorem xd_S_loaded_15 : decode xb_S_loaded 15 = .ok (.getfield 88, 3) := by decide +kernel
theorem xd_S_loaded_18 : decode xb_S_loaded 18 = .ok (.iload_n 1, 1) := by decide +kernel
theorem xd_S_loaded_19 : decode xb_S_loaded 19 = .ok (.aaload, 1) := by decide +kernel
theorem xd_S_loaded_20 : decode xb_S_loaded 20 = .ok (.getfield 92, 3) := by decide +kernel
theorem xd_S_loaded_23 : decode xb_S_loaded 23 = .ok (.getfield 115, 3) := by decide +kernel
theorem xd_S_loaded_26 : decode xb_S_loaded 26 = .ok (.goto 4, 3) := by decide +kernel
theorem xd_S_loaded_29 : decode xb_S_loaded 29 = .ok (.iconst (-1), 1) := by decide +kernel
theorem xd_S_loaded_30 : decode xb_S_loaded 30 = .ok (.ireturn, 1) := by decide +kernel
theorem xd_S_imported_0 : decode xb_S_imported 0 = .ok (.aload_n 0, 1) := by decide +kernel
theorem xd_S_imported_1 : decode xb_S_imported 1 = .ok (.getfield 19, 3) := by decide +kernel
theorem xd_S_imported_4 : decode xb_S_imported 4 = .ok (.iload_n 1, 1) := by decide +kernel
theorem xd_S_imported_5 : decode xb_S_imported 5 = .ok (.invokevirtual 67, 3) := by decide +kernel
theorem xd_S_imported_8 : decode xb_S_imported 8 = .ok (.ifCond .ne 5, 3) := by decide +kernel
theorem xd_S_imported_11 : decode xb_S_imported 11 = .ok (.iconst (-1), 1) := by decide +kernel
theorem xd_S_imported_12 : decode xb_S_imported 12 = .ok (.ireturn, 1) := by decide +kernel
theorem xd_S_imported_13 : decode xb_S_imported 13 = .ok (.aload_n 0, 1) := by decide +kernel
theorem xd_S_imported_14 : decode xb_S_imported 14 = .ok (.getfield 19, 3) := by decide +kernel
theorem xd_S_imported_17 : decode xb_S_imported 17 = .ok (.getfield 70, 3) := by decide +kernel
theorem xd_S_imported_20 : decode xb_S_imported 20 = .ok (.iload_n 1, 1) := by decide +kernel
theorem xd_S_imported_21 : decode xb_S_imported 21 = .ok (.aaload, 1) := by decide +kernel
theorem xd_S_imported_22 : decode xb_S_imported 22 = .ok (.astore_n 3, 1) := by decide +kernel
theorem xd_S_imported_23 : decode xb_S_imported 23 = .ok (.iload_n 2, 1) := by decide +kernel
theorem xd_S_imported_24 : decode xb_S_imported 24 = .ok (.ifCond .lt 11, 3) := by decide +kernel
theorem xd_S_imported_27 : decode xb_S_imported 27 = .ok (.iload_n 2, 1) := by decide +kernel
theorem xd_S_imported_28 : decode xb_S_imported 28 = .ok (.aload_n 3, 1) := by decide +kernel
theorem xd_S_imported_29 : decode xb_S_imported 29 = .ok (.getfield 118, 3) := by decide +kernel
theorem xd_S_imported_32 : decode xb_S_imported 32 = .ok (.if_icmp .lt 5, 3) := by decide +kernel
theorem xd_S_imported_35 : decode xb_S_imported 35 = .ok (.iconst (-1), 1) := by decide +kernel
theorem xd_S_imported_36 : decode xb_S_imported 36 = .ok (.ireturn, 1) := by decide +kernel
theorem xd_S_imported_37 : decode xb_S_imported 37 = .ok (.aload_n 3, 1) := by decide +kernel
theorem xd_S_imported_38 : decode xb_S_imported 38 = .ok (.getfield 121, 3) := by decide +kernel
theorem xd_S_imported_41 : decode xb_S_imported 41 = .ok (.iload_n 2, 1) := by decide +kernel
theorem xd_S_imported_42 : decode xb_S_imported 42 = .ok (.iaload, 1) := by decide +kernel
theorem xd_S_imported_43 : decode xb_S_imported 43 = .ok (.bipush 8, 2) := by decide +kernel
theorem xd_S_imported_45 : decode xb_S_imported 45 = .ok (.aload_n 3, 1) := by decide +kernel
theorem xd_S_imported_46 : decode xb_S_imported 46 = .ok (.getfield 125, 3) := by decide +kernel
theorem xd_S_imported_49 : decode xb_S_imported 49 = .ok (.iload_n 2, 1) := by decide +kernel
theorem xd_S_imported_50 : decode xb_S_imported 50 = .ok (.iaload, 1) := by decide +kernel
theorem xd_S_imported_51 : decode xb_S_imported 51 = .ok (.imul, 1) := by decide +kernel
theorem xd_S_imported_52 : decode xb_S_imported 52 = .ok (.iadd, 1) := by decide +kernel
theorem xd_S_imported_53 : decode xb_S_imported 53 = .ok (.ireturn, 1) := by decide +kernel
theorem xd_S_count_0 : decode xb_S_count 0 = .ok (.iload_n 1, 1) := by decide +kernel
theorem xd_S_count_1 : decode xb_S_count 1 = .ok (.tableswitch 96 0 5 #[39, 47, 64, 72, 80, 88], 39) := by decide +kernel
theorem xd_S_count_40 : decode xb_S_count 40 = .ok (.aload_n 0, 1) := by decide +kernel
theorem xd_S_count_41 : decode xb_S_count 41 = .ok (.getfield 10, 3) := by decide +kernel
theorem xd_S_count_44 : decode xb_S_count 44 = .ok (.getfield 128, 3) := by decide +kernel
theorem xd_S_count_47 : decode xb_S_count 47 = .ok (.ireturn, 1) := by decide +kernel
theorem xd_S_count_48 : decode xb_S_count 48 = .ok (.aload_n 0, 1) := by decide +kernel
theorem xd_S_count_49 : decode xb_S_count 49 = .ok (.getfield 10, 3) := by decide +kernel
theorem xd_S_count_52 : decode xb_S_count 52 = .ok (.aload_n 0, 1) := by decide +kernel
theorem xd_S_count_53 : decode xb_S_count 53 = .ok (.getfield 10, 3) := by decide +kernel
theorem xd_S_count_56 : decode xb_S_count 56 = .ok (.getfield 128, 3) := by decide +kernel
theorem xd_S_count_59 : decode xb_S_count 59 = .ok (.iconst 1, 1) := by decide +kernel
theorem xd_S_count_60 : decode xb_S_count 60 = .ok (.isub, 1) := by decide +kernel
theorem xd_S_count_61 : decode xb_S_count 61 = .ok (.invokevirtual 131, 3) := by decide +kernel
theorem xd_S_count_64 : decode xb_S_count 64 = .ok (.ireturn, 1) := by decide +kernel
theorem xd_S_count_65 : decode xb_S_count 65 = .ok (.aload_n 0, 1) := by decide +kernel
theorem xd_S_count_66 : decode xb_S_count 66 = .ok (.getfield 19, 3) := by decide +kernel
theorem xd_S_count_69 : decode xb_S_count 69 = .ok (.invokevirtual 134, 3) := by decide +kernel
theorem xd_S_count_72 : decode xb_S_count 72 = .ok (.ireturn, 1) := by decide +kernel
theorem xd_S_count_73 : decode xb_S_count 73 = .ok (.aload_n 0, 1) := by decide +kernel
theorem xd_S_count_74 : decode xb_S_count 74 = .ok (.getfield 26, 3) := by decide +kernel
theorem xd_S_count_77 : decode xb_S_count 77 = .ok (.invokevirtual 138, 3) := by decide +kernel
theorem xd_S_count_80 : decode xb_S_count 80 = .ok (.ireturn, 1) := by decide +kernel
theorem xd_S_count_81 : decode xb_S_count 81 = .ok (.aload_n 0, 1) := by decide +kernel
theorem xd_S_count_82 : decode xb_S_count 82 = .ok (.getfield 26, 3) := by decide +kernel
theorem xd_S_count_85 : decode xb_S_count 85 = .ok (.invokevirtual 139, 3) := by decide +kernel
theorem xd_S_count_88 : decode xb_S_count 88 = .ok (.ireturn, 1) := by decide +kernel
theorem xd_S_count_89 : decode xb_S_count 89 = .ok (.aload_n 0, 1) := by decide +kernel
theorem xd_S_count_90 : decode xb_S_count 90 = .ok (.getfield 19, 3) := by decide +kernel
theorem xd_S_count_93 : decode xb_S_count 93 = .ok (.getfield 142, 3) := by decide +kernel
theorem xd_S_count_96 : decode xb_S_count 96 = .ok (.ireturn, 1) := by decide +kernel
theorem xd_S_count_97 : decode xb_S_count 97 = .ok (.iconst (-1), 1) := by decide +kernel
theorem xd_S_count_98 : decode xb_S_count 98 = .ok (.ireturn, 1) := by decide +kernel
section
variable {l : Launch} {D : va_G} {ad : Nat → Nat} {ids : Nat → ClassId} {ps : Nat}
def xm_S_begin (σ : aw_m) (a1 : Int32) : Option (Int32 × aw_m) := (if a1 < 0 then some ((-1 : Int32), σ) else (if a1 ≤ (3 : Int32) then (xm_C_clear σ 1 a1).bind fun q_16 => some ((0 : Int32), q_16) else some ((-1 : Int32), σ)))
set_option maxHeartbeats 4000000 in
set_option maxRecDepth 100000 in
theorem xc_S_begin (σ : aw_m) (a1 : Int32) (q : Int32 × aw_m)  (hm : xm_S_begin σ a1 = some q) : aw_M l D (ty_z ids) (zs_T ps) xy_S_begin (xw_S_begin :: gw_l) (rm_D (1)) [.ref (ad 0), .int a1] (cw_w ad ids σ) (some (.int q.1)) (cw_w ad ids q.2) := by
  refine aw_intro (cc := xb_S_begin) (n := 2) (ret := (some .int)) "ModuleShelf" rfl (by decide) rfl (Nat.le_of_ble_eq_true rfl) ?_
  intro κ C
  unfold xm_S_begin at hm
  refine aw_iload_n C 1 xd_S_begin_0 rfl rfl ?_
  refine aw_if_lt (tgt := 9) C xd_S_begin_1 (by decide) (fun c_1 => ?_) (fun c_1 => ?_)
  · rw [if_pos c_1] at hm
    refine aw_iconst (v := (-1 : Int32)) C xd_S_begin_9 (by decide) ?_
    cases hm
    exact aw_iret C xd_S_begin_10
  · rw [if_neg c_1] at hm
    refine aw_iload_n C 1 xd_S_begin_4 rfl rfl ?_
    refine aw_iconst (v := (3 : Int32)) C xd_S_begin_5 (by decide) ?_
    refine aw_icmp_le (tgt := 11) C xd_S_begin_6 (by decide) (fun c_6 => ?_) (fun c_6 => ?_)
    · rw [if_pos c_6] at hm
      refine aw_aload_n C 0 xd_S_begin_11 rfl rfl ?_
      refine aw_get C 0 (kd_lt (rfl : kd_k 0 = 15)) (ly_S (rfl : kd_k 0 = 15)) rfl (fun w h => List.mem_cons_of_mem _ (xi_S w h)) 0 (by decide) rfl (List.mem_cons_of_mem _ fl_S_10) xd_S_begin_12 ?_
      refine aw_iload_n C 1 xd_S_begin_15 rfl rfl ?_
      obtain ⟨q_16, e_16, hm⟩ := aw_bnd hm
      refine aw_callVv (As := [.int a1]) (rest := []) (b := ad 1) C (xc_C_clear σ 1 a1 _ (rfl : kd_k 1 = 1) e_16) rfl (gw_sub (gw_V xg_C_clear ml_S_44 im_C_clear se_C_clear wi_C)) na_C_clear (rm_lt (by decide) (by decide)) ⟨Nat.zero_le _, Nat.zero_le _⟩ 1 (at_C (rfl : kd_k 1 = 1)) rfl rfl (Nat.le_of_ble_eq_true rfl) xd_S_begin_16 ?_
      refine aw_iconst (v := (0 : Int32)) C xd_S_begin_19 (by decide) ?_
      cases hm
      exact aw_iret C xd_S_begin_20
    · rw [if_neg c_6] at hm
      refine aw_iconst (v := (-1 : Int32)) C xd_S_begin_9 (by decide) ?_
      cases hm
      exact aw_iret C xd_S_begin_10
def xm_S_procedure (σ : aw_m) (a1 : Int32) : Option (Int32 × aw_m) := (if a1 < 0 then some ((-1 : Int32), σ) else (if a1 ≤ (2 : Int32) then (xm_C_addProcedure σ 1 a1).bind fun q_16 => some (q_16.1, q_16.2) else some ((-1 : Int32), σ)))
set_option maxHeartbeats 4000000 in
set_option maxRecDepth 100000 in
theorem xc_S_procedure (σ : aw_m) (a1 : Int32) (q : Int32 × aw_m)  (hm : xm_S_procedure σ a1 = some q) : aw_M l D (ty_z ids) (zs_T ps) xy_S_procedure (xw_S_procedure :: gw_l) (rm_D (1)) [.ref (ad 0), .int a1] (cw_w ad ids σ) (some (.int q.1)) (cw_w ad ids q.2) := by
  refine aw_intro (cc := xb_S_procedure) (n := 2) (ret := (some .int)) "ModuleShelf" rfl (by decide) rfl (Nat.le_of_ble_eq_true rfl) ?_
  intro κ C
  unfold xm_S_procedure at hm
  refine aw_iload_n C 1 xd_S_procedure_0 rfl rfl ?_
  refine aw_if_lt (tgt := 9) C xd_S_procedure_1 (by decide) (fun c_1 => ?_) (fun c_1 => ?_)
  · rw [if_pos c_1] at hm
    refine aw_iconst (v := (-1 : Int32)) C xd_S_procedure_9 (by decide) ?_
    cases hm
    exact aw_iret C xd_S_procedure_10
  · rw [if_neg c_1] at hm
    refine aw_iload_n C 1 xd_S_procedure_4 rfl rfl ?_
    refine aw_iconst (v := (2 : Int32)) C xd_S_procedure_5 (by decide) ?_
    refine aw_icmp_le (tgt := 11) C xd_S_procedure_6 (by decide) (fun c_6 => ?_) (fun c_6 => ?_)
    · rw [if_pos c_6] at hm
      refine aw_aload_n C 0 xd_S_procedure_11 rfl rfl ?_
      refine aw_get C 0 (kd_lt (rfl : kd_k 0 = 15)) (ly_S (rfl : kd_k 0 = 15)) rfl (fun w h => List.mem_cons_of_mem _ (xi_S w h)) 0 (by decide) rfl (List.mem_cons_of_mem _ fl_S_10) xd_S_procedure_12 ?_
      refine aw_iload_n C 1 xd_S_procedure_15 rfl rfl ?_
      obtain ⟨q_16, e_16, hm⟩ := aw_bnd hm
      refine aw_callVi (As := [.int a1]) (rest := []) (b := ad 1) C (xc_C_addProcedure σ 1 a1 _ (rfl : kd_k 1 = 1) e_16) rfl (gw_sub (gw_V xg_C_addProcedure ml_S_48 im_C_addProcedure se_C_addProcedure wi_C)) na_C_addProcedure (rm_lt (by decide) (by decide)) ⟨Nat.zero_le _, Nat.zero_le _⟩ 1 (at_C (rfl : kd_k 1 = 1)) rfl rfl (Nat.le_of_ble_eq_true rfl) xd_S_procedure_16 ?_
      cases hm
      exact aw_iret C xd_S_procedure_19
    · rw [if_neg c_6] at hm
      refine aw_iconst (v := (-1 : Int32)) C xd_S_procedure_9 (by decide) ?_
      cases hm
      exact aw_iret C xd_S_procedure_10
def xm_S_token (σ : aw_m) (a1 : Int32) (a2 : Int32) (a3 : Int32) : Option (Int32 × aw_m) := (if a1 < 0 then some ((-1 : Int32), σ) else (if a1 ≤ (11 : Int32) then (xm_C_addToken σ 1 a1 a2 a3).bind fun q_19 => some (q_19.1, q_19.2) else some ((-1 : Int32), σ)))
set_option maxHeartbeats 4000000 in
set_option maxRecDepth 100000 in
theorem xc_S_token (σ : aw_m) (a1 : Int32) (a2 : Int32) (a3 : Int32) (q : Int32 × aw_m)  (hm : xm_S_token σ a1 a2 a3 = some q) : aw_M l D (ty_z ids) (zs_T ps) xy_S_token (xw_S_token :: gw_l) (rm_D (2)) [.ref (ad 0), .int a1, .int a2, .int a3] (cw_w ad ids σ) (some (.int q.1)) (cw_w ad ids q.2) := by
  refine aw_intro (cc := xb_S_token) (n := 4) (ret := (some .int)) "ModuleShelf" rfl (by decide) rfl (Nat.le_of_ble_eq_true rfl) ?_
  intro κ C
  unfold xm_S_token at hm
  refine aw_iload_n C 1 xd_S_token_0 rfl rfl ?_
  refine aw_if_lt (tgt := 10) C xd_S_token_1 (by decide) (fun c_1 => ?_) (fun c_1 => ?_)
  · rw [if_pos c_1] at hm
    refine aw_iconst (v := (-1 : Int32)) C xd_S_token_10 (by decide) ?_
    cases hm
    exact aw_iret C xd_S_token_11
  · rw [if_neg c_1] at hm
    refine aw_iload_n C 1 xd_S_token_4 rfl rfl ?_
    refine aw_bipush (v := (11 : Int32)) C xd_S_token_5 (by decide) ?_
    refine aw_icmp_le (tgt := 12) C xd_S_token_7 (by decide) (fun c_7 => ?_) (fun c_7 => ?_)
    · rw [if_pos c_7] at hm
      refine aw_aload_n C 0 xd_S_token_12 rfl rfl ?_
      refine aw_get C 0 (kd_lt (rfl : kd_k 0 = 15)) (ly_S (rfl : kd_k 0 = 15)) rfl (fun w h => List.mem_cons_of_mem _ (xi_S w h)) 0 (by decide) rfl (List.mem_cons_of_mem _ fl_S_10) xd_S_token_13 ?_
      refine aw_iload_n C 1 xd_S_token_16 rfl rfl ?_
      refine aw_iload_n C 2 xd_S_token_17 rfl rfl ?_
      refine aw_iload_n C 3 xd_S_token_18 rfl rfl ?_
      obtain ⟨q_19, e_19, hm⟩ := aw_bnd hm
      refine aw_callVi (As := [.int a1, .int a2, .int a3]) (rest := []) (b := ad 1) C (xc_C_addToken σ 1 a1 a2 a3 _ (rfl : kd_k 1 = 1) e_19) rfl (gw_sub (gw_V xg_C_addToken ml_S_52 im_C_addToken se_C_addToken wi_C)) na_C_addToken (rm_lt (by decide) (by decide)) ⟨Nat.zero_le _, Nat.zero_le _⟩ 1 (at_C (rfl : kd_k 1 = 1)) rfl rfl (Nat.le_of_ble_eq_true rfl) xd_S_token_19 ?_
      cases hm
      exact aw_iret C xd_S_token_22
    · rw [if_neg c_7] at hm
      refine aw_iconst (v := (-1 : Int32)) C xd_S_token_10 (by decide) ?_
      cases hm
      exact aw_iret C xd_S_token_11
def xm_S_compile (σ : aw_m) (a1 : Int32) : Option (Int32 × aw_m) := aw_l (aw_p σ 0 4 (-1 : Int32)) fun s_2 => (xm_S_isModule s_2 a1).bind fun q_6 => (if q_6 = 0 then some ((-1 : Int32), s_2) else (xm_L_firstWrong s_2 7 1 a1).bind fun q_23 => (if q_23.1 = (-1 : Int32) then (xm_L_keep q_23.2 7 1 a1).bind fun q_49 => some (q_49.1, q_49.2) else aw_l (aw_p q_23.2 0 4 q_23.1) fun s_34 => some ((-3 : Int32), s_34)))
set_option maxHeartbeats 4000000 in
set_option maxRecDepth 100000 in
theorem xc_S_compile (σ : aw_m) (a1 : Int32) (q : Int32 × aw_m)  (hm : xm_S_compile σ a1 = some q) : aw_M l D (ty_z ids) (zs_T ps) xy_S_compile (xw_S_compile :: gw_l) (rm_D (34)) [.ref (ad 0), .int a1] (cw_w ad ids σ) (some (.int q.1)) (cw_w ad ids q.2) := by
  refine aw_intro (cc := xb_S_compile) (n := 3) (ret := (some .int)) "ModuleShelf" rfl (by decide) rfl (Nat.le_of_ble_eq_true rfl) ?_
  intro κ C
  unfold xm_S_compile at hm
  refine aw_aload_n C 0 xd_S_compile_0 rfl rfl ?_
  refine aw_iconst (v := (-1 : Int32)) C xd_S_compile_1 (by decide) ?_
  obtain ⟨s_2, h_2, hm⟩ := aw_let hm
  refine aw_put (σ1 := s_2) (f := upd (σ 0) 4 (-1 : Int32)) C 0 (kd_lt (rfl : kd_k 0 = 15)) (ly_S (rfl : kd_k 0 = 15)) rfl (fun w h => List.mem_cons_of_mem _ (xi_S w h)) xk_S xo_S xn_S 4 (by decide) (List.mem_cons_of_mem _ fl_S_37) rfl (ty := .int) (by decide +kernel) rfl rfl (Nat.le_of_ble_eq_true rfl) (ly_S (rfl : kd_k 0 = 15)) h_2 xd_S_compile_2 ?_
  refine aw_iload_n C 1 xd_S_compile_5 rfl rfl ?_
  obtain ⟨q_6, e_6, hm⟩ := aw_bnd hm
  refine aw_callSi (As := [.int a1]) (rest := []) C (xc_S_isModule s_2 a1 _  e_6) rfl (gw_sub (gw_S xg_S_isModule ml_S_56 st_S_isModule wi_S)) na_S_isModule (rm_lt (by decide) (by decide)) ⟨Nat.zero_le _, Nat.zero_le _⟩ rfl (Nat.le_of_ble_eq_true rfl) xd_S_compile_6 ?_
  refine aw_if_ne (tgt := 14) C xd_S_compile_9 (by decide) (fun c_9 => ?_) (fun c_9 => ?_)
  · rw [if_neg c_9] at hm
    refine aw_aload_n C 0 xd_S_compile_14 rfl rfl ?_
    refine aw_get C 0 (kd_lt (rfl : kd_k 0 = 15)) (ly_S (rfl : kd_k 0 = 15)) rfl (fun w h => List.mem_cons_of_mem _ (xi_S w h)) 1 (by decide) rfl (List.mem_cons_of_mem _ fl_S_19) xd_S_compile_15 ?_
    refine aw_aload_n C 0 xd_S_compile_18 rfl rfl ?_
    refine aw_get C 0 (kd_lt (rfl : kd_k 0 = 15)) (ly_S (rfl : kd_k 0 = 15)) rfl (fun w h => List.mem_cons_of_mem _ (xi_S w h)) 0 (by decide) rfl (List.mem_cons_of_mem _ fl_S_10) xd_S_compile_19 ?_
    refine aw_iload_n C 1 xd_S_compile_22 rfl rfl ?_
    obtain ⟨q_23, e_23, hm⟩ := aw_bnd hm
    refine aw_callVi (As := [.ref (ad 1), .int a1]) (rest := []) (b := ad 7) C (xc_L_firstWrong s_2 7 1 a1 _ (rfl : kd_k 7 = 4) (rfl : kd_k 1 = 1) e_23) rfl (gw_sub (gw_V xg_L_firstWrong ml_S_60 im_L_firstWrong se_L_firstWrong wi_L)) na_L_firstWrong (rm_lt (by decide) (by decide)) ⟨Nat.zero_le _, Nat.zero_le _⟩ 7 (at_L (rfl : kd_k 7 = 4)) rfl rfl (Nat.le_of_ble_eq_true rfl) xd_S_compile_23 ?_
    refine aw_istore_n (L' := [(2, .int q_23.1), (0, .ref (ad 0)), (1, .int a1)]) C xd_S_compile_26 rfl (by decide) rfl ?_
    refine aw_iload_n C 0 xd_S_compile_27 rfl rfl ?_
    refine aw_iconst (v := (-1 : Int32)) C xd_S_compile_28 (by decide) ?_
    refine aw_icmp_eq (tgt := 40) C xd_S_compile_29 (by decide) (fun c_29 => ?_) (fun c_29 => ?_)
    · rw [if_pos c_29] at hm
      refine aw_aload_n C 1 xd_S_compile_40 rfl rfl ?_
      refine aw_get C 0 (kd_lt (rfl : kd_k 0 = 15)) (ly_S (rfl : kd_k 0 = 15)) rfl (fun w h => List.mem_cons_of_mem _ (xi_S w h)) 1 (by decide) rfl (List.mem_cons_of_mem _ fl_S_19) xd_S_compile_41 ?_
      refine aw_aload_n C 1 xd_S_compile_44 rfl rfl ?_
      refine aw_get C 0 (kd_lt (rfl : kd_k 0 = 15)) (ly_S (rfl : kd_k 0 = 15)) rfl (fun w h => List.mem_cons_of_mem _ (xi_S w h)) 0 (by decide) rfl (List.mem_cons_of_mem _ fl_S_10) xd_S_compile_45 ?_
      refine aw_iload_n C 2 xd_S_compile_48 rfl rfl ?_
      obtain ⟨q_49, e_49, hm⟩ := aw_bnd hm
      refine aw_callVi (As := [.ref (ad 1), .int a1]) (rest := []) (b := ad 7) C (xc_L_keep q_23.2 7 1 a1 _ (rfl : kd_k 7 = 4) (rfl : kd_k 1 = 1) e_49) rfl (gw_sub (gw_V xg_L_keep ml_S_64 im_L_keep se_L_keep wi_L)) na_L_keep (rm_lt (by decide) (by decide)) ⟨Nat.zero_le _, Nat.zero_le _⟩ 7 (at_L (rfl : kd_k 7 = 4)) rfl rfl (Nat.le_of_ble_eq_true rfl) xd_S_compile_49 ?_
      cases hm
      exact aw_iret C xd_S_compile_52
    · rw [if_neg c_29] at hm
      refine aw_aload_n C 1 xd_S_compile_32 rfl rfl ?_
      refine aw_iload_n C 0 xd_S_compile_33 rfl rfl ?_
      obtain ⟨s_34, h_34, hm⟩ := aw_let hm
      refine aw_put (σ1 := s_34) (f := upd (q_23.2 0) 4 q_23.1) C 0 (kd_lt (rfl : kd_k 0 = 15)) (ly_S (rfl : kd_k 0 = 15)) rfl (fun w h => List.mem_cons_of_mem _ (xi_S w h)) xk_S xo_S xn_S 4 (by decide) (List.mem_cons_of_mem _ fl_S_37) rfl (ty := .int) (by decide +kernel) rfl rfl (Nat.le_of_ble_eq_true rfl) (ly_S (rfl : kd_k 0 = 15)) h_34 xd_S_compile_34 ?_
      refine aw_bipush (v := (-3 : Int32)) C xd_S_compile_37 (by decide) ?_
      cases hm
      exact aw_iret C xd_S_compile_39
  · rw [if_pos c_9] at hm
    refine aw_iconst (v := (-1 : Int32)) C xd_S_compile_12 (by decide) ?_
    cases hm
    exact aw_iret C xd_S_compile_13
def xm_S_place (σ : aw_m)  : Option Int32 := some (σ 0 4)
set_option maxHeartbeats 4000000 in
set_option maxRecDepth 100000 in
theorem xc_S_place (σ : aw_m)  (q : Int32)  (hm : xm_S_place σ  = some q) : aw_M l D (ty_z ids) (zs_T ps) xy_S_place (xw_S_place :: gw_l) (rm_D (0)) [.ref (ad 0)] (cw_w ad ids σ) (some (.int q)) (cw_w ad ids σ) := by
  refine aw_intro (cc := xb_S_place) (n := 1) (ret := (some .int)) "ModuleShelf" rfl (by decide) rfl (Nat.le_of_ble_eq_true rfl) ?_
  intro κ C
  unfold xm_S_place at hm
  refine aw_aload_n C 0 xd_S_place_0 rfl rfl ?_
  refine aw_get C 0 (kd_lt (rfl : kd_k 0 = 15)) (ly_S (rfl : kd_k 0 = 15)) rfl (fun w h => List.mem_cons_of_mem _ (xi_S w h)) 4 (by decide) rfl (List.mem_cons_of_mem _ fl_S_37) xd_S_place_1 ?_
  cases hm
  exact aw_iret C xd_S_place_4
def xm_S_remove (σ : aw_m) (a1 : Int32) : Option (Int32 × aw_m) := (xm_L_has σ 7 a1).bind fun q_5 => (if q_5 = 0 then some ((-1 : Int32), σ) else if aw_in a1 6 = true then aw_l (aw_p σ (8 + 1 + 9 * (Int32.toNatClampNeg a1)) 0 (0 : Int32)) fun s_23 => some ((0 : Int32), s_23) else none)
set_option maxHeartbeats 4000000 in
set_option maxRecDepth 100000 in
theorem xc_S_remove (σ : aw_m) (a1 : Int32) (q : Int32 × aw_m)  (hm : xm_S_remove σ a1 = some q) : aw_M l D (ty_z ids) (zs_T ps) xy_S_remove (xw_S_remove :: gw_l) (rm_D (2)) [.ref (ad 0), .int a1] (cw_w ad ids σ) (some (.int q.1)) (cw_w ad ids q.2) := by
  refine aw_intro (cc := xb_S_remove) (n := 2) (ret := (some .int)) "ModuleShelf" rfl (by decide) rfl (Nat.le_of_ble_eq_true rfl) ?_
  intro κ C
  unfold xm_S_remove at hm
  refine aw_aload_n C 0 xd_S_remove_0 rfl rfl ?_
  refine aw_get C 0 (kd_lt (rfl : kd_k 0 = 15)) (ly_S (rfl : kd_k 0 = 15)) rfl (fun w h => List.mem_cons_of_mem _ (xi_S w h)) 1 (by decide) rfl (List.mem_cons_of_mem _ fl_S_19) xd_S_remove_1 ?_
  refine aw_iload_n C 1 xd_S_remove_4 rfl rfl ?_
  obtain ⟨q_5, e_5, hm⟩ := aw_bnd hm
  refine aw_callVi (As := [.int a1]) (rest := []) (b := ad 7) C (xc_L_has σ 7 a1 _ (rfl : kd_k 7 = 4) e_5) rfl (gw_sub (gw_V xg_L_has ml_S_67 im_L_has se_L_has wi_L)) na_L_has (rm_lt (by decide) (by decide)) ⟨Nat.zero_le _, Nat.zero_le _⟩ 7 (at_L (rfl : kd_k 7 = 4)) rfl rfl (Nat.le_of_ble_eq_true rfl) xd_S_remove_5 ?_
  refine aw_if_ne (tgt := 13) C xd_S_remove_8 (by decide) (fun c_8 => ?_) (fun c_8 => ?_)
  · rw [if_neg c_8] at hm
    refine aw_aload_n C 0 xd_S_remove_13 rfl rfl ?_
    refine aw_get C 0 (kd_lt (rfl : kd_k 0 = 15)) (ly_S (rfl : kd_k 0 = 15)) rfl (fun w h => List.mem_cons_of_mem _ (xi_S w h)) 1 (by decide) rfl (List.mem_cons_of_mem _ fl_S_19) xd_S_remove_14 ?_
    refine aw_get C 7 (kd_lt (rfl : kd_k 7 = 4)) (ly_L (rfl : kd_k 7 = 4)) rfl (fun w h => List.mem_cons_of_mem _ (xi_L w h)) 0 (by decide) rfl (List.mem_cons_of_mem _ fl_S_70) xd_S_remove_17 ?_
    refine aw_iload_n C 1 xd_S_remove_20 rfl rfl ?_
    obtain ⟨g_21, hm⟩ := aw_grd hm
    refine aw_aald C 8 (kd_lt (kf_L_units rfl)) 2 (ly_U6 (kf_L_units rfl)) rfl (aw_in_ok g_21) (if_pos (aw_in_lt g_21)) xd_S_remove_21 ?_
    refine aw_iconst (v := (0 : Int32)) C xd_S_remove_22 (by decide) ?_
    obtain ⟨s_23, h_23, hm⟩ := aw_let hm
    refine aw_put (σ1 := s_23) (f := upd (σ (8 + 1 + 9 * (Int32.toNatClampNeg a1))) 0 (0 : Int32)) C (8 + 1 + 9 * (Int32.toNatClampNeg a1)) (kd_lt (ka_U6 (kf_L_units rfl) (aw_in_lt g_21))) (ly_U (ka_U6 (kf_L_units rfl) (aw_in_lt g_21))) rfl (fun w h => List.mem_cons_of_mem _ (xi_U w h)) xk_U xo_U xn_U 0 (by decide) (List.mem_cons_of_mem _ fl_S_74) rfl (ty := .boolean) (by decide +kernel) rfl rfl (Nat.le_of_ble_eq_true rfl) (ly_U (ka_U6 (kf_L_units rfl) (aw_in_lt g_21))) h_23 xd_S_remove_23 ?_
    refine aw_iconst (v := (0 : Int32)) C xd_S_remove_26 (by decide) ?_
    cases hm
    exact aw_iret C xd_S_remove_27
  · rw [if_pos c_8] at hm
    refine aw_iconst (v := (-1 : Int32)) C xd_S_remove_11 (by decide) ?_
    cases hm
    exact aw_iret C xd_S_remove_12
def xm_S_load (σ : aw_m) (a1 : Int32) : Option (Int32 × aw_m) := (xm_S_isModule σ a1).bind fun q_1 => (if q_1 = 0 then some ((-1 : Int32), σ) else (xm_M_bring σ 63 7 a1).bind fun q_18 => some (q_18.1, q_18.2))
set_option maxHeartbeats 4000000 in
set_option maxRecDepth 100000 in
theorem xc_S_load (σ : aw_m) (a1 : Int32) (q : Int32 × aw_m)  (hm : xm_S_load σ a1 = some q) : aw_M l D (ty_z ids) (zs_T ps) xy_S_load (xw_S_load :: gw_l) (rm_D (38)) [.ref (ad 0), .int a1] (cw_w ad ids σ) (some (.int q.1)) (cw_w ad ids q.2) := by
  refine aw_intro (cc := xb_S_load) (n := 2) (ret := (some .int)) "ModuleShelf" rfl (by decide) rfl (Nat.le_of_ble_eq_true rfl) ?_
  intro κ C
  unfold xm_S_load at hm
  refine aw_iload_n C 1 xd_S_load_0 rfl rfl ?_
  obtain ⟨q_1, e_1, hm⟩ := aw_bnd hm
  refine aw_callSi (As := [.int a1]) (rest := []) C (xc_S_isModule σ a1 _  e_1) rfl (gw_sub (gw_S xg_S_isModule ml_S_56 st_S_isModule wi_S)) na_S_isModule (rm_lt (by decide) (by decide)) ⟨Nat.zero_le _, Nat.zero_le _⟩ rfl (Nat.le_of_ble_eq_true rfl) xd_S_load_1 ?_
  refine aw_if_ne (tgt := 9) C xd_S_load_4 (by decide) (fun c_4 => ?_) (fun c_4 => ?_)
  · rw [if_neg c_4] at hm
    refine aw_aload_n C 0 xd_S_load_9 rfl rfl ?_
    refine aw_get C 0 (kd_lt (rfl : kd_k 0 = 15)) (ly_S (rfl : kd_k 0 = 15)) rfl (fun w h => List.mem_cons_of_mem _ (xi_S w h)) 2 (by decide) rfl (List.mem_cons_of_mem _ fl_S_26) xd_S_load_10 ?_
    refine aw_aload_n C 0 xd_S_load_13 rfl rfl ?_
    refine aw_get C 0 (kd_lt (rfl : kd_k 0 = 15)) (ly_S (rfl : kd_k 0 = 15)) rfl (fun w h => List.mem_cons_of_mem _ (xi_S w h)) 1 (by decide) rfl (List.mem_cons_of_mem _ fl_S_19) xd_S_load_14 ?_
    refine aw_iload_n C 1 xd_S_load_17 rfl rfl ?_
    obtain ⟨q_18, e_18, hm⟩ := aw_bnd hm
    refine aw_callVi (As := [.ref (ad 7), .int a1]) (rest := []) (b := ad 63) C (xc_M_bring σ 63 7 a1 _ (rfl : kd_k 63 = 8) (rfl : kd_k 7 = 4) e_18) rfl (gw_sub (gw_V xg_M_bring ml_S_80 im_M_bring se_M_bring wi_M)) na_M_bring (rm_lt (by decide) (by decide)) ⟨Nat.zero_le _, Nat.zero_le _⟩ 63 (at_M (rfl : kd_k 63 = 8)) rfl rfl (Nat.le_of_ble_eq_true rfl) xd_S_load_18 ?_
    cases hm
    exact aw_iret C xd_S_load_21
  · rw [if_pos c_4] at hm
    refine aw_iconst (v := (-1 : Int32)) C xd_S_load_7 (by decide) ?_
    cases hm
    exact aw_iret C xd_S_load_8
def xm_S_unload (σ : aw_m) (a1 : Int32) : Option (Int32 × aw_m) := (xm_M_has σ 63 a1).bind fun q_5 => (if q_5 = 0 then some ((-1 : Int32), σ) else (xm_M_isImported σ 63 a1).bind fun q_18 => (if q_18 = 0 then if aw_in a1 6 = true then aw_l (aw_p σ ((64 + 2 + 11 * (Int32.toNatClampNeg a1)) + 1) 0 (0 : Int32)) fun s_40 => some ((0 : Int32), s_40) else none else some ((-7 : Int32), σ)))
set_option maxHeartbeats 4000000 in
set_option maxRecDepth 100000 in
theorem xc_S_unload (σ : aw_m) (a1 : Int32) (q : Int32 × aw_m)  (hm : xm_S_unload σ a1 = some q) : aw_M l D (ty_z ids) (zs_T ps) xy_S_unload (xw_S_unload :: gw_l) (rm_D (3)) [.ref (ad 0), .int a1] (cw_w ad ids σ) (some (.int q.1)) (cw_w ad ids q.2) := by
  refine aw_intro (cc := xb_S_unload) (n := 2) (ret := (some .int)) "ModuleShelf" rfl (by decide) rfl (Nat.le_of_ble_eq_true rfl) ?_
  intro κ C
  unfold xm_S_unload at hm
  refine aw_aload_n C 0 xd_S_unload_0 rfl rfl ?_
  refine aw_get C 0 (kd_lt (rfl : kd_k 0 = 15)) (ly_S (rfl : kd_k 0 = 15)) rfl (fun w h => List.mem_cons_of_mem _ (xi_S w h)) 2 (by decide) rfl (List.mem_cons_of_mem _ fl_S_26) xd_S_unload_1 ?_
  refine aw_iload_n C 1 xd_S_unload_4 rfl rfl ?_
  obtain ⟨q_5, e_5, hm⟩ := aw_bnd hm
  refine aw_callVi (As := [.int a1]) (rest := []) (b := ad 63) C (xc_M_has σ 63 a1 _ (rfl : kd_k 63 = 8) e_5) rfl (gw_sub (gw_V xg_M_has ml_S_84 im_M_has se_M_has wi_M)) na_M_has (rm_lt (by decide) (by decide)) ⟨Nat.zero_le _, Nat.zero_le _⟩ 63 (at_M (rfl : kd_k 63 = 8)) rfl rfl (Nat.le_of_ble_eq_true rfl) xd_S_unload_5 ?_
  refine aw_if_ne (tgt := 13) C xd_S_unload_8 (by decide) (fun c_8 => ?_) (fun c_8 => ?_)
  · rw [if_neg c_8] at hm
    refine aw_aload_n C 0 xd_S_unload_13 rfl rfl ?_
    refine aw_get C 0 (kd_lt (rfl : kd_k 0 = 15)) (ly_S (rfl : kd_k 0 = 15)) rfl (fun w h => List.mem_cons_of_mem _ (xi_S w h)) 2 (by decide) rfl (List.mem_cons_of_mem _ fl_S_26) xd_S_unload_14 ?_
    refine aw_iload_n C 1 xd_S_unload_17 rfl rfl ?_
    obtain ⟨q_18, e_18, hm⟩ := aw_bnd hm
    refine aw_callVi (As := [.int a1]) (rest := []) (b := ad 63) C (xc_M_isImported σ 63 a1 _ (rfl : kd_k 63 = 8) e_18) rfl (gw_sub (gw_V xg_M_isImported ml_S_85 im_M_isImported se_M_isImported wi_M)) na_M_isImported (rm_lt (by decide) (by decide)) ⟨Nat.zero_le _, Nat.zero_le _⟩ 63 (at_M (rfl : kd_k 63 = 8)) rfl rfl (Nat.le_of_ble_eq_true rfl) xd_S_unload_18 ?_
    refine aw_if_eq (tgt := 27) C xd_S_unload_21 (by decide) (fun c_21 => ?_) (fun c_21 => ?_)
    · rw [if_pos c_21] at hm
      refine aw_aload_n C 0 xd_S_unload_27 rfl rfl ?_
      refine aw_get C 0 (kd_lt (rfl : kd_k 0 = 15)) (ly_S (rfl : kd_k 0 = 15)) rfl (fun w h => List.mem_cons_of_mem _ (xi_S w h)) 2 (by decide) rfl (List.mem_cons_of_mem _ fl_S_26) xd_S_unload_28 ?_
      refine aw_get C 63 (kd_lt (rfl : kd_k 63 = 8)) (ly_M (rfl : kd_k 63 = 8)) rfl (fun w h => List.mem_cons_of_mem _ (xi_M w h)) 0 (by decide) rfl (List.mem_cons_of_mem _ fl_S_88) xd_S_unload_31 ?_
      refine aw_iload_n C 1 xd_S_unload_34 rfl rfl ?_
      obtain ⟨g_35, hm⟩ := aw_grd hm
      refine aw_aald C 64 (kd_lt (kf_M_images rfl)) 3 (ly_I6 (kf_M_images rfl)) rfl (aw_in_ok g_35) (if_pos (aw_in_lt g_35)) xd_S_unload_35 ?_
      refine aw_get C (64 + 2 + 11 * (Int32.toNatClampNeg a1)) (kd_lt (ka_I6 (kf_M_images rfl) (aw_in_lt g_35))) (ly_I (ka_I6 (kf_M_images rfl) (aw_in_lt g_35))) rfl (fun w h => List.mem_cons_of_mem _ (xi_I w h)) 0 (by decide) rfl (List.mem_cons_of_mem _ fl_S_92) xd_S_unload_36 ?_
      refine aw_iconst (v := (0 : Int32)) C xd_S_unload_39 (by decide) ?_
      obtain ⟨s_40, h_40, hm⟩ := aw_let hm
      refine aw_put (σ1 := s_40) (f := upd (σ ((64 + 2 + 11 * (Int32.toNatClampNeg a1)) + 1)) 0 (0 : Int32)) C ((64 + 2 + 11 * (Int32.toNatClampNeg a1)) + 1) (kd_lt (kf_I_unit (ka_I6 (kf_M_images rfl) (aw_in_lt g_35)))) (ly_U (kf_I_unit (ka_I6 (kf_M_images rfl) (aw_in_lt g_35)))) rfl (fun w h => List.mem_cons_of_mem _ (xi_U w h)) xk_U xo_U xn_U 0 (by decide) (List.mem_cons_of_mem _ fl_S_74) rfl (ty := .boolean) (by decide +kernel) rfl rfl (Nat.le_of_ble_eq_true rfl) (ly_U (kf_I_unit (ka_I6 (kf_M_images rfl) (aw_in_lt g_35)))) h_40 xd_S_unload_40 ?_
      refine aw_iconst (v := (0 : Int32)) C xd_S_unload_43 (by decide) ?_
      cases hm
      exact aw_iret C xd_S_unload_44
    · rw [if_neg c_21] at hm
      refine aw_bipush (v := (-7 : Int32)) C xd_S_unload_24 (by decide) ?_
      cases hm
      exact aw_iret C xd_S_unload_26
  · rw [if_pos c_8] at hm
    refine aw_iconst (v := (-1 : Int32)) C xd_S_unload_11 (by decide) ?_
    cases hm
    exact aw_iret C xd_S_unload_12
def xm_S_run (σ : aw_m) (a1 : Int32) (a2 : Int32) (a3 : Int32) (a4 : Int32) : Option (Int32 × aw_m) := (xm_M_argumentsOf σ 63 a1 a2).bind fun q_6 => (if q_6 = (-1 : Int32) then some ((-1 : Int32), σ) else (xm_N_start σ 132 63 a1 a2 a3 a4).bind fun q_28 => (if q_28.2 132 2 = 0 then aw_l (aw_p q_28.2 0 5 q_28.1) fun s_54 => some ((0 : Int32), s_54) else some (q_28.2 132 2, q_28.2)))
set_option maxHeartbeats 4000000 in
set_option maxRecDepth 100000 in
theorem xc_S_run (σ : aw_m) (a1 : Int32) (a2 : Int32) (a3 : Int32) (a4 : Int32) (q : Int32 × aw_m)  (hm : xm_S_run σ a1 a2 a3 a4 = some q) : aw_M l D (ty_z ids) (zs_T ps) xy_S_run (xw_S_run :: gw_l) (rm_D (202)) [.ref (ad 0), .int a1, .int a2, .int a3, .int a4] (cw_w ad ids σ) (some (.int q.1)) (cw_w ad ids q.2) := by
  refine aw_intro (cc := xb_S_run) (n := 6) (ret := (some .int)) "ModuleShelf" rfl (by decide) rfl (Nat.le_of_ble_eq_true rfl) ?_
  intro κ C
  unfold xm_S_run at hm
  refine aw_aload_n C 0 xd_S_run_0 rfl rfl ?_
  refine aw_get C 0 (kd_lt (rfl : kd_k 0 = 15)) (ly_S (rfl : kd_k 0 = 15)) rfl (fun w h => List.mem_cons_of_mem _ (xi_S w h)) 2 (by decide) rfl (List.mem_cons_of_mem _ fl_S_26) xd_S_run_1 ?_
  refine aw_iload_n C 1 xd_S_run_4 rfl rfl ?_
  refine aw_iload_n C 2 xd_S_run_5 rfl rfl ?_
  obtain ⟨q_6, e_6, hm⟩ := aw_bnd hm
  refine aw_callVi (As := [.int a1, .int a2]) (rest := []) (b := ad 63) C (xc_M_argumentsOf σ 63 a1 a2 _ (rfl : kd_k 63 = 8) e_6) rfl (gw_sub (gw_V xg_M_argumentsOf ml_S_98 im_M_argumentsOf se_M_argumentsOf wi_M)) na_M_argumentsOf (rm_lt (by decide) (by decide)) ⟨Nat.zero_le _, Nat.zero_le _⟩ 63 (at_M (rfl : kd_k 63 = 8)) rfl rfl (Nat.le_of_ble_eq_true rfl) xd_S_run_6 ?_
  refine aw_iconst (v := (-1 : Int32)) C xd_S_run_9 (by decide) ?_
  refine aw_icmp_ne (tgt := 15) C xd_S_run_10 (by decide) (fun c_10 => ?_) (fun c_10 => ?_)
  · rw [if_neg c_10] at hm
    refine aw_aload_n C 0 xd_S_run_15 rfl rfl ?_
    refine aw_get C 0 (kd_lt (rfl : kd_k 0 = 15)) (ly_S (rfl : kd_k 0 = 15)) rfl (fun w h => List.mem_cons_of_mem _ (xi_S w h)) 3 (by decide) rfl (List.mem_cons_of_mem _ fl_S_33) xd_S_run_16 ?_
    refine aw_aload_n C 0 xd_S_run_19 rfl rfl ?_
    refine aw_get C 0 (kd_lt (rfl : kd_k 0 = 15)) (ly_S (rfl : kd_k 0 = 15)) rfl (fun w h => List.mem_cons_of_mem _ (xi_S w h)) 2 (by decide) rfl (List.mem_cons_of_mem _ fl_S_26) xd_S_run_20 ?_
    refine aw_iload_n C 1 xd_S_run_23 rfl rfl ?_
    refine aw_iload_n C 2 xd_S_run_24 rfl rfl ?_
    refine aw_iload_n C 3 xd_S_run_25 rfl rfl ?_
    refine aw_iload C 4 xd_S_run_26 rfl ?_
    obtain ⟨q_28, e_28, hm⟩ := aw_bnd hm
    refine aw_callVi (As := [.ref (ad 63), .int a1, .int a2, .int a3, .int a4]) (rest := []) (b := ad 132) C (xc_N_start σ 132 63 a1 a2 a3 a4 _ (rfl : kd_k 132 = 12) (rfl : kd_k 63 = 8) e_28) rfl (gw_sub (gw_V xg_N_start ml_S_102 im_N_start se_N_start wi_N)) na_N_start (rm_lt (by decide) (by decide)) ⟨Nat.zero_le _, Nat.zero_le _⟩ 132 (at_N (rfl : kd_k 132 = 12)) rfl rfl (Nat.le_of_ble_eq_true rfl) xd_S_run_28 ?_
    refine aw_istore (L' := [(5, .int q_28.1), (0, .ref (ad 0)), (1, .int a1), (2, .int a2), (3, .int a3), (4, .int a4)]) C xd_S_run_31 (by decide) rfl ?_
    refine aw_aload_n C 1 xd_S_run_33 rfl rfl ?_
    refine aw_get C 0 (kd_lt (rfl : kd_k 0 = 15)) (ly_S (rfl : kd_k 0 = 15)) rfl (fun w h => List.mem_cons_of_mem _ (xi_S w h)) 3 (by decide) rfl (List.mem_cons_of_mem _ fl_S_33) xd_S_run_34 ?_
    refine aw_get C 132 (kd_lt (rfl : kd_k 132 = 12)) (ly_N (rfl : kd_k 132 = 12)) rfl (fun w h => List.mem_cons_of_mem _ (xi_N w h)) 2 (by decide) rfl (List.mem_cons_of_mem _ fl_S_106) xd_S_run_37 ?_
    refine aw_if_eq (tgt := 51) C xd_S_run_40 (by decide) (fun c_40 => ?_) (fun c_40 => ?_)
    · rw [if_pos c_40] at hm
      refine aw_aload_n C 1 xd_S_run_51 rfl rfl ?_
      refine aw_iload C 0 xd_S_run_52 rfl ?_
      obtain ⟨s_54, h_54, hm⟩ := aw_let hm
      refine aw_put (σ1 := s_54) (f := upd (q_28.2 0) 5 q_28.1) C 0 (kd_lt (rfl : kd_k 0 = 15)) (ly_S (rfl : kd_k 0 = 15)) rfl (fun w h => List.mem_cons_of_mem _ (xi_S w h)) xk_S xo_S xn_S 5 (by decide) (List.mem_cons_of_mem _ fl_S_41) rfl (ty := .int) (by decide +kernel) rfl rfl (Nat.le_of_ble_eq_true rfl) (ly_S (rfl : kd_k 0 = 15)) h_54 xd_S_run_54 ?_
      refine aw_iconst (v := (0 : Int32)) C xd_S_run_57 (by decide) ?_
      cases hm
      exact aw_iret C xd_S_run_58
    · rw [if_neg c_40] at hm
      refine aw_aload_n C 1 xd_S_run_43 rfl rfl ?_
      refine aw_get C 0 (kd_lt (rfl : kd_k 0 = 15)) (ly_S (rfl : kd_k 0 = 15)) rfl (fun w h => List.mem_cons_of_mem _ (xi_S w h)) 3 (by decide) rfl (List.mem_cons_of_mem _ fl_S_33) xd_S_run_44 ?_
      refine aw_get C 132 (kd_lt (rfl : kd_k 132 = 12)) (ly_N (rfl : kd_k 132 = 12)) rfl (fun w h => List.mem_cons_of_mem _ (xi_N w h)) 2 (by decide) rfl (List.mem_cons_of_mem _ fl_S_106) xd_S_run_47 ?_
      cases hm
      exact aw_iret C xd_S_run_50
  · rw [if_pos c_10] at hm
    refine aw_iconst (v := (-1 : Int32)) C xd_S_run_13 (by decide) ?_
    cases hm
    exact aw_iret C xd_S_run_14
def xm_S_value (σ : aw_m)  : Option Int32 := some (σ 0 5)
set_option maxHeartbeats 4000000 in
set_option maxRecDepth 100000 in
theorem xc_S_value (σ : aw_m)  (q : Int32)  (hm : xm_S_value σ  = some q) : aw_M l D (ty_z ids) (zs_T ps) xy_S_value (xw_S_value :: gw_l) (rm_D (0)) [.ref (ad 0)] (cw_w ad ids σ) (some (.int q)) (cw_w ad ids σ) := by
  refine aw_intro (cc := xb_S_value) (n := 1) (ret := (some .int)) "ModuleShelf" rfl (by decide) rfl (Nat.le_of_ble_eq_true rfl) ?_
  intro κ C
  unfold xm_S_value at hm
  refine aw_aload_n C 0 xd_S_value_0 rfl rfl ?_
  refine aw_get C 0 (kd_lt (rfl : kd_k 0 = 15)) (ly_S (rfl : kd_k 0 = 15)) rfl (fun w h => List.mem_cons_of_mem _ (xi_S w h)) 5 (by decide) rfl (List.mem_cons_of_mem _ fl_S_41) xd_S_value_1 ?_
  cases hm
  exact aw_iret C xd_S_value_4
def xm_S_steps (σ : aw_m)  : Option Int32 := some (σ 132 1)
set_option maxHeartbeats 4000000 in
set_option maxRecDepth 100000 in
theorem xc_S_steps (σ : aw_m)  (q : Int32)  (hm : xm_S_steps σ  = some q) : aw_M l D (ty_z ids) (zs_T ps) xy_S_steps (xw_S_steps :: gw_l) (rm_D (0)) [.ref (ad 0)] (cw_w ad ids σ) (some (.int q)) (cw_w ad ids σ) := by
  refine aw_intro (cc := xb_S_steps) (n := 1) (ret := (some .int)) "ModuleShelf" rfl (by decide) rfl (Nat.le_of_ble_eq_true rfl) ?_
  intro κ C
  unfold xm_S_steps at hm
  refine aw_aload_n C 0 xd_S_steps_0 rfl rfl ?_
  refine aw_get C 0 (kd_lt (rfl : kd_k 0 = 15)) (ly_S (rfl : kd_k 0 = 15)) rfl (fun w h => List.mem_cons_of_mem _ (xi_S w h)) 3 (by decide) rfl (List.mem_cons_of_mem _ fl_S_33) xd_S_steps_1 ?_
  refine aw_get C 132 (kd_lt (rfl : kd_k 132 = 12)) (ly_N (rfl : kd_k 132 = 12)) rfl (fun w h => List.mem_cons_of_mem _ (xi_N w h)) 1 (by decide) rfl (List.mem_cons_of_mem _ fl_S_109) xd_S_steps_4 ?_
  cases hm
  exact aw_iret C xd_S_steps_7
def xm_S_variable (σ : aw_m) (a1 : Int32) (a2 : Int32) : Option Int32 := (xm_M_valueOf σ 63 a1 a2).bind fun q_6 => some q_6
set_option maxHeartbeats 4000000 in
set_option maxRecDepth 100000 in
theorem xc_S_variable (σ : aw_m) (a1 : Int32) (a2 : Int32) (q : Int32)  (hm : xm_S_variable σ a1 a2 = some q) : aw_M l D (ty_z ids) (zs_T ps) xy_S_variable (xw_S_variable :: gw_l) (rm_D (3)) [.ref (ad 0), .int a1, .int a2] (cw_w ad ids σ) (some (.int q)) (cw_w ad ids σ) := by
  refine aw_intro (cc := xb_S_variable) (n := 3) (ret := (some .int)) "ModuleShelf" rfl (by decide) rfl (Nat.le_of_ble_eq_true rfl) ?_
  intro κ C
  unfold xm_S_variable at hm
  refine aw_aload_n C 0 xd_S_variable_0 rfl rfl ?_
  refine aw_get C 0 (kd_lt (rfl : kd_k 0 = 15)) (ly_S (rfl : kd_k 0 = 15)) rfl (fun w h => List.mem_cons_of_mem _ (xi_S w h)) 2 (by decide) rfl (List.mem_cons_of_mem _ fl_S_26) xd_S_variable_1 ?_
  refine aw_iload_n C 1 xd_S_variable_4 rfl rfl ?_
  refine aw_iload_n C 2 xd_S_variable_5 rfl rfl ?_
  obtain ⟨q_6, e_6, hm⟩ := aw_bnd hm
  refine aw_callVi (As := [.int a1, .int a2]) (rest := []) (b := ad 63) C (xc_M_valueOf σ 63 a1 a2 _ (rfl : kd_k 63 = 8) e_6) rfl (gw_sub (gw_V xg_M_valueOf ml_S_112 im_M_valueOf se_M_valueOf wi_M)) na_M_valueOf (rm_lt (by decide) (by decide)) ⟨Nat.zero_le _, Nat.zero_le _⟩ 63 (at_M (rfl : kd_k 63 = 8)) rfl rfl (Nat.le_of_ble_eq_true rfl) xd_S_variable_6 ?_
  cases hm
  exact aw_iret C xd_S_variable_9
def xm_S_key (σ : aw_m) (a1 : Int32) : Option Int32 := (xm_L_has σ 7 a1).bind fun q_5 => (if q_5 = 0 then some (-1 : Int32) else if aw_in a1 6 = true then some (σ (8 + 1 + 9 * (Int32.toNatClampNeg a1)) 1) else none)
set_option maxHeartbeats 4000000 in
set_option maxRecDepth 100000 in
theorem xc_S_key (σ : aw_m) (a1 : Int32) (q : Int32)  (hm : xm_S_key σ a1 = some q) : aw_M l D (ty_z ids) (zs_T ps) xy_S_key (xw_S_key :: gw_l) (rm_D (2)) [.ref (ad 0), .int a1] (cw_w ad ids σ) (some (.int q)) (cw_w ad ids σ) := by
  refine aw_intro (cc := xb_S_key) (n := 2) (ret := (some .int)) "ModuleShelf" rfl (by decide) rfl (Nat.le_of_ble_eq_true rfl) ?_
  intro κ C
  unfold xm_S_key at hm
  refine aw_aload_n C 0 xd_S_key_0 rfl rfl ?_
  refine aw_get C 0 (kd_lt (rfl : kd_k 0 = 15)) (ly_S (rfl : kd_k 0 = 15)) rfl (fun w h => List.mem_cons_of_mem _ (xi_S w h)) 1 (by decide) rfl (List.mem_cons_of_mem _ fl_S_19) xd_S_key_1 ?_
  refine aw_iload_n C 1 xd_S_key_4 rfl rfl ?_
  obtain ⟨q_5, e_5, hm⟩ := aw_bnd hm
  refine aw_callVi (As := [.int a1]) (rest := []) (b := ad 7) C (xc_L_has σ 7 a1 _ (rfl : kd_k 7 = 4) e_5) rfl (gw_sub (gw_V xg_L_has ml_S_67 im_L_has se_L_has wi_L)) na_L_has (rm_lt (by decide) (by decide)) ⟨Nat.zero_le _, Nat.zero_le _⟩ 7 (at_L (rfl : kd_k 7 = 4)) rfl rfl (Nat.le_of_ble_eq_true rfl) xd_S_key_5 ?_
  refine aw_if_eq (tgt := 26) C xd_S_key_8 (by decide) (fun c_8 => ?_) (fun c_8 => ?_)
  · rw [if_pos c_8] at hm
    refine aw_iconst (v := (-1 : Int32)) C xd_S_key_26 (by decide) ?_
    cases hm
    exact aw_iret C xd_S_key_27
  · rw [if_neg c_8] at hm
    refine aw_aload_n C 0 xd_S_key_11 rfl rfl ?_
    refine aw_get C 0 (kd_lt (rfl : kd_k 0 = 15)) (ly_S (rfl : kd_k 0 = 15)) rfl (fun w h => List.mem_cons_of_mem _ (xi_S w h)) 1 (by decide) rfl (List.mem_cons_of_mem _ fl_S_19) xd_S_key_12 ?_
    refine aw_get C 7 (kd_lt (rfl : kd_k 7 = 4)) (ly_L (rfl : kd_k 7 = 4)) rfl (fun w h => List.mem_cons_of_mem _ (xi_L w h)) 0 (by decide) rfl (List.mem_cons_of_mem _ fl_S_70) xd_S_key_15 ?_
    refine aw_iload_n C 1 xd_S_key_18 rfl rfl ?_
    obtain ⟨g_19, hm⟩ := aw_grd hm
    refine aw_aald C 8 (kd_lt (kf_L_units rfl)) 2 (ly_U6 (kf_L_units rfl)) rfl (aw_in_ok g_19) (if_pos (aw_in_lt g_19)) xd_S_key_19 ?_
    refine aw_get C (8 + 1 + 9 * (Int32.toNatClampNeg a1)) (kd_lt (ka_U6 (kf_L_units rfl) (aw_in_lt g_19))) (ly_U (ka_U6 (kf_L_units rfl) (aw_in_lt g_19))) rfl (fun w h => List.mem_cons_of_mem _ (xi_U w h)) 1 (by decide) rfl (List.mem_cons_of_mem _ fl_S_115) xd_S_key_20 ?_
    refine aw_goto (tgt := 27) C xd_S_key_23 (by decide) ?_
    cases hm
    exact aw_iret C xd_S_key_27
def xm_S_loaded (σ : aw_m) (a1 : Int32) : Option Int32 := (xm_M_has σ 63 a1).bind fun q_5 => (if q_5 = 0 then some (-1 : Int32) else if aw_in a1 6 = true then some (σ ((64 + 2 + 11 * (Int32.toNatClampNeg a1)) + 1) 1) else none)
set_option maxHeartbeats 4000000 in
set_option maxRecDepth 100000 in
theorem xc_S_loaded (σ : aw_m) (a1 : Int32) (q : Int32)  (hm : xm_S_loaded σ a1 = some q) : aw_M l D (ty_z ids) (zs_T ps) xy_S_loaded (xw_S_loaded :: gw_l) (rm_D (2)) [.ref (ad 0), .int a1] (cw_w ad ids σ) (some (.int q)) (cw_w ad ids σ) := by
  refine aw_intro (cc := xb_S_loaded) (n := 2) (ret := (some .int)) "ModuleShelf" rfl (by decide) rfl (Nat.le_of_ble_eq_true rfl) ?_
  intro κ C
  unfold xm_S_loaded at hm
  refine aw_aload_n C 0 xd_S_loaded_0 rfl rfl ?_
  refine aw_get C 0 (kd_lt (rfl : kd_k 0 = 15)) (ly_S (rfl : kd_k 0 = 15)) rfl (fun w h => List.mem_cons_of_mem _ (xi_S w h)) 2 (by decide) rfl (List.mem_cons_of_mem _ fl_S_26) xd_S_loaded_1 ?_
  refine aw_iload_n C 1 xd_S_loaded_4 rfl rfl ?_
  obtain ⟨q_5, e_5, hm⟩ := aw_bnd hm
  refine aw_callVi (As := [.int a1]) (rest := []) (b := ad 63) C (xc_M_has σ 63 a1 _ (rfl : kd_k 63 = 8) e_5) rfl (gw_sub (gw_V xg_M_has ml_S_84 im_M_has se_M_has wi_M)) na_M_has (rm_lt (by decide) (by decide)) ⟨Nat.zero_le _, Nat.zero_le _⟩ 63 (at_M (rfl : kd_k 63 = 8)) rfl rfl (Nat.le_of_ble_eq_true rfl) xd_S_loaded_5 ?_
  refine aw_if_eq (tgt := 29) C xd_S_loaded_8 (by decide) (fun c_8 => ?_) (fun c_8 => ?_)
  · rw [if_pos c_8] at hm
    refine aw_iconst (v := (-1 : Int32)) C xd_S_loaded_29 (by decide) ?_
    cases hm
    exact aw_iret C xd_S_loaded_30
  · rw [if_neg c_8] at hm
    refine aw_aload_n C 0 xd_S_loaded_11 rfl rfl ?_
    refine aw_get C 0 (kd_lt (rfl : kd_k 0 = 15)) (ly_S (rfl : kd_k 0 = 15)) rfl (fun w h => List.mem_cons_of_mem _ (xi_S w h)) 2 (by decide) rfl (List.mem_cons_of_mem _ fl_S_26) xd_S_loaded_12 ?_
    refine aw_get C 63 (kd_lt (rfl : kd_k 63 = 8)) (ly_M (rfl : kd_k 63 = 8)) rfl (fun w h => List.mem_cons_of_mem _ (xi_M w h)) 0 (by decide) rfl (List.mem_cons_of_mem _ fl_S_88) xd_S_loaded_15 ?_
    refine aw_iload_n C 1 xd_S_loaded_18 rfl rfl ?_
    obtain ⟨g_19, hm⟩ := aw_grd hm
    refine aw_aald C 64 (kd_lt (kf_M_images rfl)) 3 (ly_I6 (kf_M_images rfl)) rfl (aw_in_ok g_19) (if_pos (aw_in_lt g_19)) xd_S_loaded_19 ?_
    refine aw_get C (64 + 2 + 11 * (Int32.toNatClampNeg a1)) (kd_lt (ka_I6 (kf_M_images rfl) (aw_in_lt g_19))) (ly_I (ka_I6 (kf_M_images rfl) (aw_in_lt g_19))) rfl (fun w h => List.mem_cons_of_mem _ (xi_I w h)) 0 (by decide) rfl (List.mem_cons_of_mem _ fl_S_92) xd_S_loaded_20 ?_
    refine aw_get C ((64 + 2 + 11 * (Int32.toNatClampNeg a1)) + 1) (kd_lt (kf_I_unit (ka_I6 (kf_M_images rfl) (aw_in_lt g_19)))) (ly_U (kf_I_unit (ka_I6 (kf_M_images rfl) (aw_in_lt g_19)))) rfl (fun w h => List.mem_cons_of_mem _ (xi_U w h)) 1 (by decide) rfl (List.mem_cons_of_mem _ fl_S_115) xd_S_loaded_23 ?_
    refine aw_goto (tgt := 30) C xd_S_loaded_26 (by decide) ?_
    cases hm
    exact aw_iret C xd_S_loaded_30
def xm_S_imported (σ : aw_m) (a1 : Int32) (a2 : Int32) : Option Int32 := (xm_L_has σ 7 a1).bind fun q_5 => (if q_5 = 0 then some (-1 : Int32) else if aw_in a1 6 = true then (if a2 < 0 then some (-1 : Int32) else (if a2 < σ (8 + 1 + 9 * (Int32.toNatClampNeg a1)) 2 then if aw_in a2 6 = true then if aw_in a2 6 = true then some ((σ ((8 + 1 + 9 * (Int32.toNatClampNeg a1)) + 1) (Int32.toNatClampNeg a2)) + ((8 : Int32) * (σ ((8 + 1 + 9 * (Int32.toNatClampNeg a1)) + 2) (Int32.toNatClampNeg a2)))) else none else none else some (-1 : Int32))) else none)
set_option maxHeartbeats 4000000 in
set_option maxRecDepth 100000 in
theorem xc_S_imported (σ : aw_m) (a1 : Int32) (a2 : Int32) (q : Int32)  (hm : xm_S_imported σ a1 a2 = some q) : aw_M l D (ty_z ids) (zs_T ps) xy_S_imported (xw_S_imported :: gw_l) (rm_D (2)) [.ref (ad 0), .int a1, .int a2] (cw_w ad ids σ) (some (.int q)) (cw_w ad ids σ) := by
  refine aw_intro (cc := xb_S_imported) (n := 4) (ret := (some .int)) "ModuleShelf" rfl (by decide) rfl (Nat.le_of_ble_eq_true rfl) ?_
  intro κ C
  unfold xm_S_imported at hm
  refine aw_aload_n C 0 xd_S_imported_0 rfl rfl ?_
  refine aw_get C 0 (kd_lt (rfl : kd_k 0 = 15)) (ly_S (rfl : kd_k 0 = 15)) rfl (fun w h => List.mem_cons_of_mem _ (xi_S w h)) 1 (by decide) rfl (List.mem_cons_of_mem _ fl_S_19) xd_S_imported_1 ?_
  refine aw_iload_n C 1 xd_S_imported_4 rfl rfl ?_
  obtain ⟨q_5, e_5, hm⟩ := aw_bnd hm
  refine aw_callVi (As := [.int a1]) (rest := []) (b := ad 7) C (xc_L_has σ 7 a1 _ (rfl : kd_k 7 = 4) e_5) rfl (gw_sub (gw_V xg_L_has ml_S_67 im_L_has se_L_has wi_L)) na_L_has (rm_lt (by decide) (by decide)) ⟨Nat.zero_le _, Nat.zero_le _⟩ 7 (at_L (rfl : kd_k 7 = 4)) rfl rfl (Nat.le_of_ble_eq_true rfl) xd_S_imported_5 ?_
  refine aw_if_ne (tgt := 13) C xd_S_imported_8 (by decide) (fun c_8 => ?_) (fun c_8 => ?_)
  · rw [if_neg c_8] at hm
    refine aw_aload_n C 0 xd_S_imported_13 rfl rfl ?_
    refine aw_get C 0 (kd_lt (rfl : kd_k 0 = 15)) (ly_S (rfl : kd_k 0 = 15)) rfl (fun w h => List.mem_cons_of_mem _ (xi_S w h)) 1 (by decide) rfl (List.mem_cons_of_mem _ fl_S_19) xd_S_imported_14 ?_
    refine aw_get C 7 (kd_lt (rfl : kd_k 7 = 4)) (ly_L (rfl : kd_k 7 = 4)) rfl (fun w h => List.mem_cons_of_mem _ (xi_L w h)) 0 (by decide) rfl (List.mem_cons_of_mem _ fl_S_70) xd_S_imported_17 ?_
    refine aw_iload_n C 1 xd_S_imported_20 rfl rfl ?_
    obtain ⟨g_21, hm⟩ := aw_grd hm
    refine aw_aald C 8 (kd_lt (kf_L_units rfl)) 2 (ly_U6 (kf_L_units rfl)) rfl (aw_in_ok g_21) (if_pos (aw_in_lt g_21)) xd_S_imported_21 ?_
    refine aw_astore_n (L' := [(3, .ref (ad (8 + 1 + 9 * (Int32.toNatClampNeg a1)))), (0, .ref (ad 0)), (1, .int a1), (2, .int a2)]) C xd_S_imported_22 rfl (by decide) rfl ?_
    refine aw_iload_n C 3 xd_S_imported_23 rfl rfl ?_
    refine aw_if_lt (tgt := 35) C xd_S_imported_24 (by decide) (fun c_24 => ?_) (fun c_24 => ?_)
    · rw [if_pos c_24] at hm
      refine aw_iconst (v := (-1 : Int32)) C xd_S_imported_35 (by decide) ?_
      cases hm
      exact aw_iret C xd_S_imported_36
    · rw [if_neg c_24] at hm
      refine aw_iload_n C 3 xd_S_imported_27 rfl rfl ?_
      refine aw_aload_n C 0 xd_S_imported_28 rfl rfl ?_
      refine aw_get C (8 + 1 + 9 * (Int32.toNatClampNeg a1)) (kd_lt (ka_U6 (kf_L_units rfl) (aw_in_lt g_21))) (ly_U (ka_U6 (kf_L_units rfl) (aw_in_lt g_21))) rfl (fun w h => List.mem_cons_of_mem _ (xi_U w h)) 2 (by decide) rfl (List.mem_cons_of_mem _ fl_S_118) xd_S_imported_29 ?_
      refine aw_icmp_lt (tgt := 37) C xd_S_imported_32 (by decide) (fun c_32 => ?_) (fun c_32 => ?_)
      · rw [if_pos c_32] at hm
        refine aw_aload_n C 0 xd_S_imported_37 rfl rfl ?_
        refine aw_get C (8 + 1 + 9 * (Int32.toNatClampNeg a1)) (kd_lt (ka_U6 (kf_L_units rfl) (aw_in_lt g_21))) (ly_U (ka_U6 (kf_L_units rfl) (aw_in_lt g_21))) rfl (fun w h => List.mem_cons_of_mem _ (xi_U w h)) 3 (by decide) rfl (List.mem_cons_of_mem _ fl_S_121) xd_S_imported_38 ?_
        refine aw_iload_n C 3 xd_S_imported_41 rfl rfl ?_
        obtain ⟨g_42, hm⟩ := aw_grd hm
        refine aw_iald C ((8 + 1 + 9 * (Int32.toNatClampNeg a1)) + 1) (kd_lt (kf_U_importModules (ka_U6 (kf_L_units rfl) (aw_in_lt g_21)))) 0 (ly_A6 (kf_U_importModules (ka_U6 (kf_L_units rfl) (aw_in_lt g_21)))) rfl (aw_in_ok g_42) xd_S_imported_42 ?_
        refine aw_bipush (v := (8 : Int32)) C xd_S_imported_43 (by decide) ?_
        refine aw_aload_n C 0 xd_S_imported_45 rfl rfl ?_
        refine aw_get C (8 + 1 + 9 * (Int32.toNatClampNeg a1)) (kd_lt (ka_U6 (kf_L_units rfl) (aw_in_lt g_21))) (ly_U (ka_U6 (kf_L_units rfl) (aw_in_lt g_21))) rfl (fun w h => List.mem_cons_of_mem _ (xi_U w h)) 4 (by decide) rfl (List.mem_cons_of_mem _ fl_S_125) xd_S_imported_46 ?_
        refine aw_iload_n C 3 xd_S_imported_49 rfl rfl ?_
        obtain ⟨g_50, hm⟩ := aw_grd hm
        refine aw_iald C ((8 + 1 + 9 * (Int32.toNatClampNeg a1)) + 2) (kd_lt (kf_U_importKeys (ka_U6 (kf_L_units rfl) (aw_in_lt g_21)))) 0 (ly_A6 (kf_U_importKeys (ka_U6 (kf_L_units rfl) (aw_in_lt g_21)))) rfl (aw_in_ok g_50) xd_S_imported_50 ?_
        refine aw_imul C xd_S_imported_51 ?_
        refine aw_iadd C xd_S_imported_52 ?_
        cases hm
        exact aw_iret C xd_S_imported_53
      · rw [if_neg c_32] at hm
        refine aw_iconst (v := (-1 : Int32)) C xd_S_imported_35 (by decide) ?_
        cases hm
        exact aw_iret C xd_S_imported_36
  · rw [if_pos c_8] at hm
    refine aw_iconst (v := (-1 : Int32)) C xd_S_imported_11 (by decide) ?_
    cases hm
    exact aw_iret C xd_S_imported_12
def xm_S_count (σ : aw_m) (a1 : Int32) : Option Int32 := (if a1 = (0 : Int32) then some (σ 1 1) else (if a1 = (1 : Int32) then (xm_C_lengthOf σ 1 ((σ 1 1) - (1 : Int32))).bind fun q_61 => some q_61 else (if a1 = (2 : Int32) then (xm_L_held σ 7).bind fun q_69 => some q_69 else (if a1 = (3 : Int32) then (xm_M_held σ 63).bind fun q_77 => some q_77 else (if a1 = (4 : Int32) then (xm_M_size σ 63).bind fun q_85 => some q_85 else (if a1 = (5 : Int32) then some (σ 7 1) else some (-1 : Int32)))))))
set_option maxHeartbeats 4000000 in
set_option maxRecDepth 100000 in
theorem xc_S_count (σ : aw_m) (a1 : Int32) (q : Int32)  (hm : xm_S_count σ a1 = some q) : aw_M l D (ty_z ids) (zs_T ps) xy_S_count (xw_S_count :: gw_l) (rm_D (3)) [.ref (ad 0), .int a1] (cw_w ad ids σ) (some (.int q)) (cw_w ad ids σ) := by
  refine aw_intro (cc := xb_S_count) (n := 2) (ret := (some .int)) "ModuleShelf" rfl (by decide) rfl (Nat.le_of_ble_eq_true rfl) ?_
  intro κ C
  unfold xm_S_count at hm
  refine aw_iload_n C 1 xd_S_count_0 rfl rfl ?_
  by_cases c_1_0 : a1 = (0 : Int32)
  · rw [if_pos c_1_0] at hm
    refine aw_tabIn (off := 39) (tgt := 40) C xd_S_count_1 (by rw [c_1_0]; decide) (by rw [c_1_0]; decide) (by rw [c_1_0]; rfl) (by decide) ?_
    refine aw_aload_n C 0 xd_S_count_40 rfl rfl ?_
    refine aw_get C 0 (kd_lt (rfl : kd_k 0 = 15)) (ly_S (rfl : kd_k 0 = 15)) rfl (fun w h => List.mem_cons_of_mem _ (xi_S w h)) 0 (by decide) rfl (List.mem_cons_of_mem _ fl_S_10) xd_S_count_41 ?_
    refine aw_get C 1 (kd_lt (rfl : kd_k 1 = 1)) (ly_C (rfl : kd_k 1 = 1)) rfl (fun w h => List.mem_cons_of_mem _ (xi_C w h)) 1 (by decide) rfl (List.mem_cons_of_mem _ fl_S_128) xd_S_count_44 ?_
    cases hm
    exact aw_iret C xd_S_count_47
  rw [if_neg c_1_0] at hm
  by_cases c_1_1 : a1 = (1 : Int32)
  · rw [if_pos c_1_1] at hm
    refine aw_tabIn (off := 47) (tgt := 48) C xd_S_count_1 (by rw [c_1_1]; decide) (by rw [c_1_1]; decide) (by rw [c_1_1]; rfl) (by decide) ?_
    refine aw_aload_n C 0 xd_S_count_48 rfl rfl ?_
    refine aw_get C 0 (kd_lt (rfl : kd_k 0 = 15)) (ly_S (rfl : kd_k 0 = 15)) rfl (fun w h => List.mem_cons_of_mem _ (xi_S w h)) 0 (by decide) rfl (List.mem_cons_of_mem _ fl_S_10) xd_S_count_49 ?_
    refine aw_aload_n C 0 xd_S_count_52 rfl rfl ?_
    refine aw_get C 0 (kd_lt (rfl : kd_k 0 = 15)) (ly_S (rfl : kd_k 0 = 15)) rfl (fun w h => List.mem_cons_of_mem _ (xi_S w h)) 0 (by decide) rfl (List.mem_cons_of_mem _ fl_S_10) xd_S_count_53 ?_
    refine aw_get C 1 (kd_lt (rfl : kd_k 1 = 1)) (ly_C (rfl : kd_k 1 = 1)) rfl (fun w h => List.mem_cons_of_mem _ (xi_C w h)) 1 (by decide) rfl (List.mem_cons_of_mem _ fl_S_128) xd_S_count_56 ?_
    refine aw_iconst (v := (1 : Int32)) C xd_S_count_59 (by decide) ?_
    refine aw_isub C xd_S_count_60 ?_
    obtain ⟨q_61, e_61, hm⟩ := aw_bnd hm
    refine aw_callVi (As := [.int ((σ 1 1) - (1 : Int32))]) (rest := []) (b := ad 1) C (xc_C_lengthOf σ 1 ((σ 1 1) - (1 : Int32)) _ (rfl : kd_k 1 = 1) e_61) rfl (gw_sub (gw_V xg_C_lengthOf ml_S_131 im_C_lengthOf se_C_lengthOf wi_C)) na_C_lengthOf (rm_lt (by decide) (by decide)) ⟨Nat.zero_le _, Nat.zero_le _⟩ 1 (at_C (rfl : kd_k 1 = 1)) rfl rfl (Nat.le_of_ble_eq_true rfl) xd_S_count_61 ?_
    cases hm
    exact aw_iret C xd_S_count_64
  rw [if_neg c_1_1] at hm
  by_cases c_1_2 : a1 = (2 : Int32)
  · rw [if_pos c_1_2] at hm
    refine aw_tabIn (off := 64) (tgt := 65) C xd_S_count_1 (by rw [c_1_2]; decide) (by rw [c_1_2]; decide) (by rw [c_1_2]; rfl) (by decide) ?_
    refine aw_aload_n C 0 xd_S_count_65 rfl rfl ?_
    refine aw_get C 0 (kd_lt (rfl : kd_k 0 = 15)) (ly_S (rfl : kd_k 0 = 15)) rfl (fun w h => List.mem_cons_of_mem _ (xi_S w h)) 1 (by decide) rfl (List.mem_cons_of_mem _ fl_S_19) xd_S_count_66 ?_
    obtain ⟨q_69, e_69, hm⟩ := aw_bnd hm
    refine aw_callVi (As := []) (rest := []) (b := ad 7) C (xc_L_held σ 7 _ (rfl : kd_k 7 = 4) e_69) rfl (gw_sub (gw_V xg_L_held ml_S_134 im_L_held se_L_held wi_L)) na_L_held (rm_lt (by decide) (by decide)) ⟨Nat.zero_le _, Nat.zero_le _⟩ 7 (at_L (rfl : kd_k 7 = 4)) rfl rfl (Nat.le_of_ble_eq_true rfl) xd_S_count_69 ?_
    cases hm
    exact aw_iret C xd_S_count_72
  rw [if_neg c_1_2] at hm
  by_cases c_1_3 : a1 = (3 : Int32)
  · rw [if_pos c_1_3] at hm
    refine aw_tabIn (off := 72) (tgt := 73) C xd_S_count_1 (by rw [c_1_3]; decide) (by rw [c_1_3]; decide) (by rw [c_1_3]; rfl) (by decide) ?_
    refine aw_aload_n C 0 xd_S_count_73 rfl rfl ?_
    refine aw_get C 0 (kd_lt (rfl : kd_k 0 = 15)) (ly_S (rfl : kd_k 0 = 15)) rfl (fun w h => List.mem_cons_of_mem _ (xi_S w h)) 2 (by decide) rfl (List.mem_cons_of_mem _ fl_S_26) xd_S_count_74 ?_
    obtain ⟨q_77, e_77, hm⟩ := aw_bnd hm
    refine aw_callVi (As := []) (rest := []) (b := ad 63) C (xc_M_held σ 63 _ (rfl : kd_k 63 = 8) e_77) rfl (gw_sub (gw_V xg_M_held ml_S_138 im_M_held se_M_held wi_M)) na_M_held (rm_lt (by decide) (by decide)) ⟨Nat.zero_le _, Nat.zero_le _⟩ 63 (at_M (rfl : kd_k 63 = 8)) rfl rfl (Nat.le_of_ble_eq_true rfl) xd_S_count_77 ?_
    cases hm
    exact aw_iret C xd_S_count_80
  rw [if_neg c_1_3] at hm
  by_cases c_1_4 : a1 = (4 : Int32)
  · rw [if_pos c_1_4] at hm
    refine aw_tabIn (off := 80) (tgt := 81) C xd_S_count_1 (by rw [c_1_4]; decide) (by rw [c_1_4]; decide) (by rw [c_1_4]; rfl) (by decide) ?_
    refine aw_aload_n C 0 xd_S_count_81 rfl rfl ?_
    refine aw_get C 0 (kd_lt (rfl : kd_k 0 = 15)) (ly_S (rfl : kd_k 0 = 15)) rfl (fun w h => List.mem_cons_of_mem _ (xi_S w h)) 2 (by decide) rfl (List.mem_cons_of_mem _ fl_S_26) xd_S_count_82 ?_
    obtain ⟨q_85, e_85, hm⟩ := aw_bnd hm
    refine aw_callVi (As := []) (rest := []) (b := ad 63) C (xc_M_size σ 63 _ (rfl : kd_k 63 = 8) e_85) rfl (gw_sub (gw_V xg_M_size ml_S_139 im_M_size se_M_size wi_M)) na_M_size (rm_lt (by decide) (by decide)) ⟨Nat.zero_le _, Nat.zero_le _⟩ 63 (at_M (rfl : kd_k 63 = 8)) rfl rfl (Nat.le_of_ble_eq_true rfl) xd_S_count_85 ?_
    cases hm
    exact aw_iret C xd_S_count_88
  rw [if_neg c_1_4] at hm
  by_cases c_1_5 : a1 = (5 : Int32)
  · rw [if_pos c_1_5] at hm
    refine aw_tabIn (off := 88) (tgt := 89) C xd_S_count_1 (by rw [c_1_5]; decide) (by rw [c_1_5]; decide) (by rw [c_1_5]; rfl) (by decide) ?_
    refine aw_aload_n C 0 xd_S_count_89 rfl rfl ?_
    refine aw_get C 0 (kd_lt (rfl : kd_k 0 = 15)) (ly_S (rfl : kd_k 0 = 15)) rfl (fun w h => List.mem_cons_of_mem _ (xi_S w h)) 1 (by decide) rfl (List.mem_cons_of_mem _ fl_S_19) xd_S_count_90 ?_
    refine aw_get C 7 (kd_lt (rfl : kd_k 7 = 4)) (ly_L (rfl : kd_k 7 = 4)) rfl (fun w h => List.mem_cons_of_mem _ (xi_L w h)) 1 (by decide) rfl (List.mem_cons_of_mem _ fl_S_142) xd_S_count_93 ?_
    cases hm
    exact aw_iret C xd_S_count_96
  rw [if_neg c_1_5] at hm
  have t_1_0 := lv_neT c_1_0 (a := 0) (by decide)
  have t_1_1 := lv_neT c_1_1 (a := 1) (by decide)
  have t_1_2 := lv_neT c_1_2 (a := 2) (by decide)
  have t_1_3 := lv_neT c_1_3 (a := 3) (by decide)
  have t_1_4 := lv_neT c_1_4 (a := 4) (by decide)
  have t_1_5 := lv_neT c_1_5 (a := 5) (by decide)
  refine aw_tabOut (tgt := 97) C xd_S_count_1 (by omega) (by decide) ?_
  refine aw_iconst (v := (-1 : Int32)) C xd_S_count_97 (by decide) ?_
  cases hm
  exact aw_iret C xd_S_count_98
end
