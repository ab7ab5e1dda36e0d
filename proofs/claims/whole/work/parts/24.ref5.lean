theorem xd_R_run_0 : decode xb_R_run 0 = .ok (.iload_n 1, 1) := by decide +kernel
theorem xd_R_run_1 : decode xb_R_run 1 = .ok (.iconst 0, 1) := by decide +kernel
theorem xd_R_run_2 : decode xb_R_run 2 = .ok (.iconst 5, 1) := by decide +kernel
theorem xd_R_run_3 : decode xb_R_run 3 = .ok (.invokestatic 83, 3) := by decide +kernel
theorem xd_R_run_6 : decode xb_R_run 6 = .ok (.ifCond .eq 34, 3) := by decide +kernel
theorem xd_R_run_9 : decode xb_R_run 9 = .ok (.aload_n 0, 1) := by decide +kernel
theorem xd_R_run_10 : decode xb_R_run 10 = .ok (.getfield 7, 3) := by decide +kernel
theorem xd_R_run_13 : decode xb_R_run 13 = .ok (.bipush 6, 2) := by decide +kernel
theorem xd_R_run_15 : decode xb_R_run 15 = .ok (.iload_n 1, 1) := by decide +kernel
theorem xd_R_run_16 : decode xb_R_run 16 = .ok (.iadd, 1) := by decide +kernel
theorem xd_R_run_17 : decode xb_R_run 17 = .ok (.iaload, 1) := by decide +kernel
theorem xd_R_run_18 : decode xb_R_run 18 = .ok (.ifCond .eq 22, 3) := by decide +kernel
theorem xd_R_run_21 : decode xb_R_run 21 = .ok (.iload_n 2, 1) := by decide +kernel
theorem xd_R_run_22 : decode xb_R_run 22 = .ok (.iconst 0, 1) := by decide +kernel
theorem xd_R_run_23 : decode xb_R_run 23 = .ok (.aload_n 0, 1) := by decide +kernel
theorem xd_R_run_24 : decode xb_R_run 24 = .ok (.getfield 16, 3) := by decide +kernel
theorem xd_R_run_27 : decode xb_R_run 27 = .ok (.bipush 6, 2) := by decide +kernel
theorem xd_R_run_29 : decode xb_R_run 29 = .ok (.iload_n 1, 1) := by decide +kernel
theorem xd_R_run_30 : decode xb_R_run 30 = .ok (.iadd, 1) := by decide +kernel
theorem xd_R_run_31 : decode xb_R_run 31 = .ok (.iaload, 1) := by decide +kernel
theorem xd_R_run_32 : decode xb_R_run 32 = .ok (.iconst 1, 1) := by decide +kernel
theorem xd_R_run_33 : decode xb_R_run 33 = .ok (.isub, 1) := by decide +kernel
theorem xd_R_run_34 : decode xb_R_run 34 = .ok (.invokestatic 83, 3) := by decide +kernel
theorem xd_R_run_37 : decode xb_R_run 37 = .ok (.ifCond .ne 5, 3) := by decide +kernel
theorem xd_R_run_40 : decode xb_R_run 40 = .ok (.iconst (-1), 1) := by decide +kernel
theorem xd_R_run_41 : decode xb_R_run 41 = .ok (.ireturn, 1) := by decide +kernel
theorem xd_R_run_42 : decode xb_R_run 42 = .ok (.aload_n 0, 1) := by decide +kernel
theorem xd_R_run_43 : decode xb_R_run 43 = .ok (.iconst 0, 1) := by decide +kernel
theorem xd_R_run_44 : decode xb_R_run 44 = .ok (.putfield 124, 3) := by decide +kernel
theorem xd_R_run_47 : decode xb_R_run 47 = .ok (.aload_n 0, 1) := by decide +kernel
theorem xd_R_run_48 : decode xb_R_run 48 = .ok (.iconst 0, 1) := by decide +kernel
theorem xd_R_run_49 : decode xb_R_run 49 = .ok (.putfield 127, 3) := by decide +kernel
theorem xd_R_run_52 : decode xb_R_run 52 = .ok (.aload_n 0, 1) := by decide +kernel
theorem xd_R_run_53 : decode xb_R_run 53 = .ok (.iconst 0, 1) := by decide +kernel
theorem xd_R_run_54 : decode xb_R_run 54 = .ok (.putfield 133, 3) := by decide +kernel
theorem xd_R_run_57 : decode xb_R_run 57 = .ok (.aload_n 0, 1) := by decide +kernel
theorem xd_R_run_58 : decode xb_R_run 58 = .ok (.iconst 0, 1) := by decide +kernel
theorem xd_R_run_59 : decode xb_R_run 59 = .ok (.iload_n 1, 1) := by decide +kernel
theorem xd_R_run_60 : decode xb_R_run 60 = .ok (.iload_n 2, 1) := by decide +kernel
theorem xd_R_run_61 : decode xb_R_run 61 = .ok (.iload_n 3, 1) := by decide +kernel
theorem xd_R_run_62 : decode xb_R_run 62 = .ok (.iload 4, 2) := by decide +kernel
theorem xd_R_run_64 : decode xb_R_run 64 = .ok (.invokevirtual 136, 3) := by decide +kernel
theorem xd_R_run_67 : decode xb_R_run 67 = .ok (.iconst 0, 1) := by decide +kernel
theorem xd_R_run_68 : decode xb_R_run 68 = .ok (.istore 5, 2) := by decide +kernel
theorem xd_R_run_70 : decode xb_R_run 70 = .ok (.aload_n 0, 1) := by decide +kernel
theorem xd_R_run_71 : decode xb_R_run 71 = .ok (.getfield 124, 3) := by decide +kernel
theorem xd_R_run_74 : decode xb_R_run 74 = .ok (.ifCond .le 164, 3) := by decide +kernel
theorem xd_R_run_77 : decode xb_R_run 77 = .ok (.iload 5, 2) := by decide +kernel
theorem xd_R_run_79 : decode xb_R_run 79 = .ok (.ifCond .ne 159, 3) := by decide +kernel
theorem xd_R_run_82 : decode xb_R_run 82 = .ok (.aload_n 0, 1) := by decide +kernel
theorem xd_R_run_83 : decode xb_R_run 83 = .ok (.dup, 1) := by decide +kernel
theorem xd_R_run_84 : decode xb_R_run 84 = .ok (.getfield 124, 3) := by decide +kernel
theorem xd_R_run_87 : decode xb_R_run 87 = .ok (.iconst 1, 1) := by decide +kernel
theorem xd_R_run_88 : decode xb_R_run 88 = .ok (.isub, 1) := by decide +kernel
theorem xd_R_run_89 : decode xb_R_run 89 = .ok (.putfield 124, 3) := by decide +kernel
theorem xd_R_run_92 : decode xb_R_run 92 = .ok (.aload_n 0, 1) := by decide +kernel
theorem xd_R_run_93 : decode xb_R_run 93 = .ok (.getfield 62, 3) := by decide +kernel
theorem xd_R_run_96 : decode xb_R_run 96 = .ok (.aload_n 0, 1) := by decide +kernel
theorem xd_R_run_97 : decode xb_R_run 97 = .ok (.getfield 124, 3) := by decide +kernel
theorem xd_R_run_100 : decode xb_R_run 100 = .ok (.iaload, 1) := by decide +kernel
theorem xd_R_run_101 : decode xb_R_run 101 = .ok (.istore 6, 2) := by decide +kernel
theorem xd_R_run_103 : decode xb_R_run 103 = .ok (.aload_n 0, 1) := by decide +kernel
theorem xd_R_run_104 : decode xb_R_run 104 = .ok (.getfield 65, 3) := by decide +kernel
theorem xd_R_run_107 : decode xb_R_run 107 = .ok (.aload_n 0, 1) := by decide +kernel
theorem xd_R_run_108 : decode xb_R_run 108 = .ok (.getfield 124, 3) := by decide +kernel
theorem xd_R_run_111 : decode xb_R_run 111 = .ok (.iaload, 1) := by decide +kernel
theorem xd_R_run_112 : decode xb_R_run 112 = .ok (.istore 7, 2) := by decide +kernel
theorem xd_R_run_114 : decode xb_R_run 114 = .ok (.aload_n 0, 1) := by decide +kernel
theorem xd_R_run_115 : decode xb_R_run 115 = .ok (.getfield 59, 3) := by decide +kernel
theorem xd_R_run_118 : decode xb_R_run 118 = .ok (.aload_n 0, 1) := by decide +kernel
theorem xd_R_run_119 : decode xb_R_run 119 = .ok (.getfield 124, 3) := by decide +kernel
theorem xd_R_run_122 : decode xb_R_run 122 = .ok (.iaload, 1) := by decide +kernel
theorem xd_R_run_123 : decode xb_R_run 123 = .ok (.ifCond .ne 30, 3) := by decide +kernel
theorem xd_R_run_126 : decode xb_R_run 126 = .ok (.aload_n 0, 1) := by decide +kernel
theorem xd_R_run_127 : decode xb_R_run 127 = .ok (.getfield 133, 3) := by decide +kernel
theorem xd_R_run_130 : decode xb_R_run 130 = .ok (.bipush 120, 2) := by decide +kernel
theorem xd_R_run_132 : decode xb_R_run 132 = .ok (.if_icmp .ne 10, 3) := by decide +kernel
theorem xd_R_run_135 : decode xb_R_run 135 = .ok (.bipush (-10), 2) := by decide +kernel
theorem xd_R_run_137 : decode xb_R_run 137 = .ok (.istore 5, 2) := by decide +kernel
theorem xd_R_run_139 : decode xb_R_run 139 = .ok (.goto 96, 3) := by decide +kernel
theorem xd_R_run_142 : decode xb_R_run 142 = .ok (.aload_n 0, 1) := by decide +kernel
theorem xd_R_run_143 : decode xb_R_run 143 = .ok (.iload 6, 2) := by decide +kernel
theorem xd_R_run_145 : decode xb_R_run 145 = .ok (.iload 7, 2) := by decide +kernel
theorem xd_R_run_147 : decode xb_R_run 147 = .ok (.invokevirtual 140, 3) := by decide +kernel
theorem xd_R_run_150 : decode xb_R_run 150 = .ok (.goto 85, 3) := by decide +kernel
theorem xd_R_run_153 : decode xb_R_run 153 = .ok (.aload_n 0, 1) := by decide +kernel
theorem xd_R_run_154 : decode xb_R_run 154 = .ok (.getfield 59, 3) := by decide +kernel
theorem xd_R_run_157 : decode xb_R_run 157 = .ok (.aload_n 0, 1) := by decide +kernel
theorem xd_R_run_158 : decode xb_R_run 158 = .ok (.getfield 124, 3) := by decide +kernel
theorem xd_R_run_161 : decode xb_R_run 161 = .ok (.iaload, 1) := by decide +kernel
theorem xd_R_run_162 : decode xb_R_run 162 = .ok (.iconst 1, 1) := by decide +kernel
theorem xd_R_run_163 : decode xb_R_run 163 = .ok (.if_icmp .ne 16, 3) := by decide +kernel
theorem xd_R_run_166 : decode xb_R_run 166 = .ok (.aload_n 0, 1) := by decide +kernel
theorem xd_R_run_167 : decode xb_R_run 167 = .ok (.iload 6, 2) := by decide +kernel
theorem xd_R_run_169 : decode xb_R_run 169 = .ok (.iload 7, 2) := by decide +kernel
theorem xd_R_run_171 : decode xb_R_run 171 = .ok (.invokevirtual 143, 3) := by decide +kernel
theorem xd_R_run_174 : decode xb_R_run 174 = .ok (.istore 5, 2) := by decide +kernel
theorem xd_R_run_176 : decode xb_R_run 176 = .ok (.goto 59, 3) := by decide +kernel
theorem xd_R_run_179 : decode xb_R_run 179 = .ok (.aload_n 0, 1) := by decide +kernel
theorem xd_R_run_180 : decode xb_R_run 180 = .ok (.getfield 59, 3) := by decide +kernel
theorem xd_R_run_183 : decode xb_R_run 183 = .ok (.aload_n 0, 1) := by decide +kernel
theorem xd_R_run_184 : decode xb_R_run 184 = .ok (.getfield 124, 3) := by decide +kernel
theorem xd_R_run_187 : decode xb_R_run 187 = .ok (.iaload, 1) := by decide +kernel
theorem xd_R_run_188 : decode xb_R_run 188 = .ok (.iconst 2, 1) := by decide +kernel
theorem xd_R_run_189 : decode xb_R_run 189 = .ok (.if_icmp .ne 11, 3) := by decide +kernel
theorem xd_R_run_192 : decode xb_R_run 192 = .ok (.aload_n 0, 1) := by decide +kernel
theorem xd_R_run_193 : decode xb_R_run 193 = .ok (.invokevirtual 146, 3) := by decide +kernel
theorem xd_R_run_196 : decode xb_R_run 196 = .ok (.pop, 1) := by decide +kernel
theorem xd_R_run_197 : decode xb_R_run 197 = .ok (.goto 38, 3) := by decide +kernel
theorem xd_R_run_200 : decode xb_R_run 200 = .ok (.aload_n 0, 1) := by decide +kernel
theorem xd_R_run_201 : decode xb_R_run 201 = .ok (.iload 6, 2) := by decide +kernel
theorem xd_R_run_203 : decode xb_R_run 203 = .ok (.iconst 1, 1) := by decide +kernel
theorem xd_R_run_204 : decode xb_R_run 204 = .ok (.iadd, 1) := by decide +kernel
theorem xd_R_run_205 : decode xb_R_run 205 = .ok (.invokevirtual 149, 3) := by decide +kernel
theorem xd_R_run_208 : decode xb_R_run 208 = .ok (.istore 8, 2) := by decide +kernel
theorem xd_R_run_210 : decode xb_R_run 210 = .ok (.aload_n 0, 1) := by decide +kernel
theorem xd_R_run_211 : decode xb_R_run 211 = .ok (.iconst 0, 1) := by decide +kernel
theorem xd_R_run_212 : decode xb_R_run 212 = .ok (.aload_n 0, 1) := by decide +kernel
theorem xd_R_run_213 : decode xb_R_run 213 = .ok (.invokevirtual 146, 3) := by decide +kernel
theorem xd_R_run_216 : decode xb_R_run 216 = .ok (.ifCond .eq 8, 3) := by decide +kernel
theorem xd_R_run_219 : decode xb_R_run 219 = .ok (.iload 8, 2) := by decide +kernel
theorem xd_R_run_221 : decode xb_R_run 221 = .ok (.goto 9, 3) := by decide +kernel
theorem xd_R_run_224 : decode xb_R_run 224 = .ok (.aload_n 0, 1) := by decide +kernel
theorem xd_R_run_225 : decode xb_R_run 225 = .ok (.iload 8, 2) := by decide +kernel
theorem xd_R_run_227 : decode xb_R_run 227 = .ok (.invokevirtual 149, 3) := by decide +kernel
theorem xd_R_run_230 : decode xb_R_run 230 = .ok (.iload 7, 2) := by decide +kernel
theorem xd_R_run_232 : decode xb_R_run 232 = .ok (.invokevirtual 152, 3) := by decide +kernel
theorem xd_R_run_235 : decode xb_R_run 235 = .ok (.goto (-165), 3) := by decide +kernel
theorem xd_R_run_238 : decode xb_R_run 238 = .ok (.iload 5, 2) := by decide +kernel
theorem xd_R_run_240 : decode xb_R_run 240 = .ok (.ifCond .ne 13, 3) := by decide +kernel
theorem xd_R_run_243 : decode xb_R_run 243 = .ok (.aload_n 0, 1) := by decide +kernel
theorem xd_R_run_244 : decode xb_R_run 244 = .ok (.aload_n 0, 1) := by decide +kernel
theorem xd_R_run_245 : decode xb_R_run 245 = .ok (.getfield 68, 3) := by decide +kernel
theorem xd_R_run_248 : decode xb_R_run 248 = .ok (.iconst 0, 1) := by decide +kernel
theorem xd_R_run_249 : decode xb_R_run 249 = .ok (.iaload, 1) := by decide +kernel
theorem xd_R_run_250 : decode xb_R_run 250 = .ok (.putfield 156, 3) := by decide +kernel
theorem xd_R_run_253 : decode xb_R_run 253 = .ok (.iload 5, 2) := by decide +kernel
theorem xd_R_run_255 : decode xb_R_run 255 = .ok (.ireturn, 1) := by decide +kernel
theorem xd_R_value_0 : decode xb_R_value 0 = .ok (.aload_n 0, 1) := by decide +kernel
theorem xd_R_value_1 : decode xb_R_value 1 = .ok (.getfield 156, 3) := by decide +kernel
theorem xd_R_value_4 : decode xb_R_value 4 = .ok (.ireturn, 1) := by decide +kernel
theorem xd_R_steps_0 : decode xb_R_steps 0 = .ok (.aload_n 0, 1) := by decide +kernel
theorem xd_R_steps_1 : decode xb_R_steps 1 = .ok (.getfield 133, 3) := by decide +kernel
theorem xd_R_steps_4 : decode xb_R_steps 4 = .ok (.ireturn, 1) := by decide +kernel
theorem xd_R_variable_0 : decode xb_R_variable 0 = .ok (.iload_n 1, 1) := by decide +kernel
theorem xd_R_variable_1 : decode xb_R_variable 1 = .ok (.iconst 0, 1) := by decide +kernel
theorem xd_R_variable_2 : decode xb_R_variable 2 = .ok (.iconst 5, 1) := by decide +kernel
theorem xd_R_variable_3 : decode xb_R_variable 3 = .ok (.invokestatic 83, 3) := by decide +kernel
theorem xd_R_variable_6 : decode xb_R_variable 6 = .ok (.ifCond .eq 47, 3) := by decide +kernel
theorem xd_R_variable_9 : decode xb_R_variable 9 = .ok (.aload_n 0, 1) := by decide +kernel
theorem xd_R_variable_10 : decode xb_R_variable 10 = .ok (.getfield 7, 3) := by decide +kernel
theorem xd_R_variable_13 : decode xb_R_variable 13 = .ok (.bipush 6, 2) := by decide +kernel
theorem xd_R_variable_15 : decode xb_R_variable 15 = .ok (.iload_n 1, 1) := by decide +kernel
theorem xd_R_variable_16 : decode xb_R_variable 16 = .ok (.iadd, 1) := by decide +kernel
theorem xd_R_variable_17 : decode xb_R_variable 17 = .ok (.iaload, 1) := by decide +kernel
theorem xd_R_variable_18 : decode xb_R_variable 18 = .ok (.ifCond .le 35, 3) := by decide +kernel
theorem xd_R_variable_21 : decode xb_R_variable 21 = .ok (.iload_n 2, 1) := by decide +kernel
theorem xd_R_variable_22 : decode xb_R_variable 22 = .ok (.iconst 0, 1) := by decide +kernel
theorem xd_R_variable_23 : decode xb_R_variable 23 = .ok (.aload_n 0, 1) := by decide +kernel
theorem xd_R_variable_24 : decode xb_R_variable 24 = .ok (.getfield 13, 3) := by decide +kernel
theorem xd_R_variable_27 : decode xb_R_variable 27 = .ok (.bipush 6, 2) := by decide +kernel
theorem xd_R_variable_29 : decode xb_R_variable 29 = .ok (.iload_n 1, 1) := by decide +kernel
theorem xd_R_variable_30 : decode xb_R_variable 30 = .ok (.iadd, 1) := by decide +kernel
theorem xd_R_variable_31 : decode xb_R_variable 31 = .ok (.iaload, 1) := by decide +kernel
theorem xd_R_variable_32 : decode xb_R_variable 32 = .ok (.iconst 1, 1) := by decide +kernel
theorem xd_R_variable_33 : decode xb_R_variable 33 = .ok (.isub, 1) := by decide +kernel
theorem xd_R_variable_34 : decode xb_R_variable 34 = .ok (.invokestatic 83, 3) := by decide +kernel
theorem xd_R_variable_37 : decode xb_R_variable 37 = .ok (.ifCond .eq 16, 3) := by decide +kernel
theorem xd_R_variable_40 : decode xb_R_variable 40 = .ok (.aload_n 0, 1) := by decide +kernel
theorem xd_R_variable_41 : decode xb_R_variable 41 = .ok (.getfield 43, 3) := by decide +kernel
theorem xd_R_variable_44 : decode xb_R_variable 44 = .ok (.iconst 3, 1) := by decide +kernel
theorem xd_R_variable_45 : decode xb_R_variable 45 = .ok (.iload_n 1, 1) := by decide +kernel
theorem xd_R_variable_46 : decode xb_R_variable 46 = .ok (.imul, 1) := by decide +kernel
theorem xd_R_variable_47 : decode xb_R_variable 47 = .ok (.iload_n 2, 1) := by decide +kernel
theorem xd_R_variable_48 : decode xb_R_variable 48 = .ok (.iadd, 1) := by decide +kernel
theorem xd_R_variable_49 : decode xb_R_variable 49 = .ok (.iaload, 1) := by decide +kernel
theorem xd_R_variable_50 : decode xb_R_variable 50 = .ok (.goto 4, 3) := by decide +kernel
theorem xd_R_variable_53 : decode xb_R_variable 53 = .ok (.iconst 0, 1) := by decide +kernel
theorem xd_R_variable_54 : decode xb_R_variable 54 = .ok (.ireturn, 1) := by decide +kernel
theorem xd_R_key_0 : decode xb_R_key 0 = .ok (.iload_n 1, 1) := by decide +kernel
theorem xd_R_key_1 : decode xb_R_key 1 = .ok (.iconst 0, 1) := by decide +kernel
theorem xd_R_key_2 : decode xb_R_key 2 = .ok (.iconst 5, 1) := by decide +kernel
theorem xd_R_key_3 : decode xb_R_key 3 = .ok (.invokestatic 83, 3) := by decide +kernel
theorem xd_R_key_6 : decode xb_R_key 6 = .ok (.ifCond .eq 21, 3) := by decide +kernel
theorem xd_R_key_9 : decode xb_R_key 9 = .ok (.aload_n 0, 1) := by decide +kernel
theorem xd_R_key_10 : decode xb_R_key 10 = .ok (.getfield 7, 3) := by decide +kernel
theorem xd_R_key_13 : decode xb_R_key 13 = .ok (.iload_n 1, 1) := by decide +kernel
theorem xd_R_key_14 : decode xb_R_key 14 = .ok (.iaload, 1) := by decide +kernel
theorem xd_R_key_15 : decode xb_R_key 15 = .ok (.ifCond .le 12, 3) := by decide +kernel
theorem xd_R_key_18 : decode xb_R_key 18 = .ok (.aload_n 0, 1) := by decide +kernel
theorem xd_R_key_19 : decode xb_R_key 19 = .ok (.getfield 7, 3) := by decide +kernel
theorem xd_R_key_22 : decode xb_R_key 22 = .ok (.iload_n 1, 1) := by decide +kernel
theorem xd_R_key_23 : decode xb_R_key 23 = .ok (.iaload, 1) := by decide +kernel
theorem xd_R_key_24 : decode xb_R_key 24 = .ok (.goto 4, 3) := by decide +kernel
theorem xd_R_key_27 : decode xb_R_key 27 = .ok (.iconst (-1), 1) := by decide +kernel
theorem xd_R_key_28 : decode xb_R_key 28 = .ok (.ireturn, 1) := by decide +kernel
theorem xd_R_loaded_0 : decode xb_R_loaded 0 = .ok (.iload_n 1, 1) := by decide +kernel
theorem xd_R_loaded_1 : decode xb_R_loaded 1 = .ok (.iconst 0, 1) := by decide +kernel
theorem xd_R_loaded_2 : decode xb_R_loaded 2 = .ok (.iconst 5, 1) := by decide +kernel
theorem xd_R_loaded_3 : decode xb_R_loaded 3 = .ok (.invokestatic 83, 3) := by decide +kernel
theorem xd_R_loaded_6 : decode xb_R_loaded 6 = .ok (.ifCond .eq 27, 3) := by decide +kernel
theorem xd_R_loaded_9 : decode xb_R_loaded 9 = .ok (.aload_n 0, 1) := by decide +kernel
theorem xd_R_loaded_10 : decode xb_R_loaded 10 = .ok (.getfield 7, 3) := by decide +kernel
theorem xd_R_loaded_13 : decode xb_R_loaded 13 = .ok (.bipush 6, 2) := by decide +kernel
theorem xd_R_loaded_15 : decode xb_R_loaded 15 = .ok (.iload_n 1, 1) := by decide +kernel
theorem xd_R_loaded_16 : decode xb_R_loaded 16 = .ok (.iadd, 1) := by decide +kernel
theorem xd_R_loaded_17 : decode xb_R_loaded 17 = .ok (.iaload, 1) := by decide +kernel
theorem xd_R_loaded_18 : decode xb_R_loaded 18 = .ok (.ifCond .le 15, 3) := by decide +kernel
theorem xd_R_loaded_21 : decode xb_R_loaded 21 = .ok (.aload_n 0, 1) := by decide +kernel
theorem xd_R_loaded_22 : decode xb_R_loaded 22 = .ok (.getfield 7, 3) := by decide +kernel
theorem xd_R_loaded_25 : decode xb_R_loaded 25 = .ok (.bipush 6, 2) := by decide +kernel
theorem xd_R_loaded_27 : decode xb_R_loaded 27 = .ok (.iload_n 1, 1) := by decide +kernel
theorem xd_R_loaded_28 : decode xb_R_loaded 28 = .ok (.iadd, 1) := by decide +kernel
theorem xd_R_loaded_29 : decode xb_R_loaded 29 = .ok (.iaload, 1) := by decide +kernel
theorem xd_R_loaded_30 : decode xb_R_loaded 30 = .ok (.goto 4, 3) := by decide +kernel
theorem xd_R_loaded_33 : decode xb_R_loaded 33 = .ok (.iconst (-1), 1) := by decide +kernel
theorem xd_R_loaded_34 : decode xb_R_loaded 34 = .ok (.ireturn, 1) := by decide +kernel
theorem xd_R_imported_0 : decode xb_R_imported 0 = .ok (.iload_n 1, 1) := by decide +kernel
theorem xd_R_imported_1 : decode xb_R_imported 1 = .ok (.iconst 0, 1) := by decide +kernel
theorem xd_R_imported_2 : decode xb_R_imported 2 = .ok (.iconst 5, 1) := by decide +kernel
theorem xd_R_imported_3 : decode xb_R_imported 3 = .ok (.invokestatic 83, 3) := by decide +kernel
theorem xd_R_imported_6 : decode xb_R_imported 6 = .ok (.ifCond .eq 28, 3) := by decide +kernel
theorem xd_R_imported_9 : decode xb_R_imported 9 = .ok (.aload_n 0, 1) := by decide +kernel
theorem xd_R_imported_10 : decode xb_R_imported 10 = .ok (.getfield 7, 3) := by decide +kernel
theorem xd_R_imported_13 : decode xb_R_imported 13 = .ok (.iload_n 1, 1) := by decide +kernel
theorem xd_R_imported_14 : decode xb_R_imported 14 = .ok (.iaload, 1) := by decide +kernel
theorem xd_R_imported_15 : decode xb_R_imported 15 = .ok (.ifCond .eq 19, 3) := by decide +kernel
theorem xd_R_imported_18 : decode xb_R_imported 18 = .ok (.iload_n 2, 1) := by decide +kernel
theorem xd_R_imported_19 : decode xb_R_imported 19 = .ok (.iconst 0, 1) := by decide +kernel
theorem xd_R_imported_20 : decode xb_R_imported 20 = .ok (.aload_n 0, 1) := by decide +kernel
theorem xd_R_imported_21 : decode xb_R_imported 21 = .ok (.getfield 34, 3) := by decide +kernel
theorem xd_R_imported_24 : decode xb_R_imported 24 = .ok (.iload_n 1, 1) := by decide +kernel
theorem xd_R_imported_25 : decode xb_R_imported 25 = .ok (.iaload, 1) := by decide +kernel
theorem xd_R_imported_26 : decode xb_R_imported 26 = .ok (.iconst 1, 1) := by decide +kernel
theorem xd_R_imported_27 : decode xb_R_imported 27 = .ok (.isub, 1) := by decide +kernel
theorem xd_R_imported_28 : decode xb_R_imported 28 = .ok (.invokestatic 83, 3) := by decide +kernel
theorem xd_R_imported_31 : decode xb_R_imported 31 = .ok (.ifCond .ne 5, 3) := by decide +kernel
theorem xd_R_imported_34 : decode xb_R_imported 34 = .ok (.iconst (-1), 1) := by decide +kernel
theorem xd_R_imported_35 : decode xb_R_imported 35 = .ok (.ireturn, 1) := by decide +kernel
theorem xd_R_imported_36 : decode xb_R_imported 36 = .ok (.aload_n 0, 1) := by decide +kernel
theorem xd_R_imported_37 : decode xb_R_imported 37 = .ok (.getfield 37, 3) := by decide +kernel
theorem xd_R_imported_40 : decode xb_R_imported 40 = .ok (.iconst 5, 1) := by decide +kernel
theorem xd_R_imported_41 : decode xb_R_imported 41 = .ok (.iload_n 1, 1) := by decide +kernel
theorem xd_R_imported_42 : decode xb_R_imported 42 = .ok (.imul, 1) := by decide +kernel
theorem xd_R_imported_43 : decode xb_R_imported 43 = .ok (.iload_n 2, 1) := by decide +kernel
theorem xd_R_imported_44 : decode xb_R_imported 44 = .ok (.iadd, 1) := by decide +kernel
theorem xd_R_imported_45 : decode xb_R_imported 45 = .ok (.iaload, 1) := by decide +kernel
theorem xd_R_imported_46 : decode xb_R_imported 46 = .ok (.bipush 8, 2) := by decide +kernel
theorem xd_R_imported_48 : decode xb_R_imported 48 = .ok (.aload_n 0, 1) := by decide +kernel
theorem xd_R_imported_49 : decode xb_R_imported 49 = .ok (.getfield 40, 3) := by decide +kernel
theorem xd_R_imported_52 : decode xb_R_imported 52 = .ok (.iconst 5, 1) := by decide +kernel
theorem xd_R_imported_53 : decode xb_R_imported 53 = .ok (.iload_n 1, 1) := by decide +kernel
theorem xd_R_imported_54 : decode xb_R_imported 54 = .ok (.imul, 1) := by decide +kernel
theorem xd_R_imported_55 : decode xb_R_imported 55 = .ok (.iload_n 2, 1) := by decide +kernel
theorem xd_R_imported_56 : decode xb_R_imported 56 = .ok (.iadd, 1) := by decide +kernel
theorem xd_R_imported_57 : decode xb_R_imported 57 = .ok (.iaload, 1) := by decide +kernel
theorem xd_R_imported_58 : decode xb_R_imported 58 = .ok (.imul, 1) := by decide +kernel
theorem xd_R_imported_59 : decode xb_R_imported 59 = .ok (.iadd, 1) := by decide +kernel
theorem xd_R_imported_60 : decode xb_R_imported 60 = .ok (.ireturn, 1) := by decide +kernel
theorem xd_R_count_0 : decode xb_R_count 0 = .ok (.iconst 0, 1) := by decide +kernel
theorem xd_R_count_1 : decode xb_R_count 1 = .ok (.istore_n 2, 1) := by decide +kernel
theorem xd_R_count_2 : decode xb_R_count 2 = .ok (.iconst 0, 1) := by decide +kernel
theorem xd_R_count_3 : decode xb_R_count 3 = .ok (.istore_n 3, 1) := by decide +kernel
theorem xd_R_count_4 : decode xb_R_count 4 = .ok (.iconst 0, 1) := by decide +kernel
theorem xd_R_count_5 : decode xb_R_count 5 = .ok (.istore 4, 2) := by decide +kernel
theorem xd_R_count_7 : decode xb_R_count 7 = .ok (.iload 4, 2) := by decide +kernel
theorem xd_R_count_9 : decode xb_R_count 9 = .ok (.bipush 6, 2) := by decide +kernel
theorem xd_R_count_11 : decode xb_R_count 11 = .ok (.if_icmp .ge 38, 3) := by decide +kernel
theorem xd_R_count_14 : decode xb_R_count 14 = .ok (.aload_n 0, 1) := by decide +kernel
theorem xd_R_count_15 : decode xb_R_count 15 = .ok (.getfield 7, 3) := by decide +kernel
theorem xd_R_count_18 : decode xb_R_count 18 = .ok (.iload 4, 2) := by decide +kernel
theorem xd_R_count_20 : decode xb_R_count 20 = .ok (.iaload, 1) := by decide +kernel
theorem xd_R_count_21 : decode xb_R_count 21 = .ok (.ifCond .le 6, 3) := by decide +kernel
theorem xd_R_count_24 : decode xb_R_count 24 = .ok (.iinc 2 1, 3) := by decide +kernel
theorem xd_R_count_27 : decode xb_R_count 27 = .ok (.aload_n 0, 1) := by decide +kernel
theorem xd_R_count_28 : decode xb_R_count 28 = .ok (.getfield 7, 3) := by decide +kernel
theorem xd_R_count_31 : decode xb_R_count 31 = .ok (.bipush 6, 2) := by decide +kernel
theorem xd_R_count_33 : decode xb_R_count 33 = .ok (.iload 4, 2) := by decide +kernel
theorem xd_R_count_35 : decode xb_R_count 35 = .ok (.iadd, 1) := by decide +kernel
theorem xd_R_count_36 : decode xb_R_count 36 = .ok (.iaload, 1) := by decide +kernel
theorem xd_R_count_37 : decode xb_R_count 37 = .ok (.ifCond .le 6, 3) := by decide +kernel
theorem xd_R_count_40 : decode xb_R_count 40 = .ok (.iinc 3 1, 3) := by decide +kernel
theorem xd_R_count_43 : decode xb_R_count 43 = .ok (.iinc 4 1, 3) := by decide +kernel
theorem xd_R_count_46 : decode xb_R_count 46 = .ok (.goto (-39), 3) := by decide +kernel
theorem xd_R_count_49 : decode xb_R_count 49 = .ok (.iload_n 1, 1) := by decide +kernel
theorem xd_R_count_50 : decode xb_R_count 50 = .ok (.tableswitch 92 0 5 #[38, 46, 78, 80, 82, 87], 38) := by decide +kernel
theorem xd_R_count_88 : decode xb_R_count 88 = .ok (.aload_n 0, 1) := by decide +kernel
theorem xd_R_count_89 : decode xb_R_count 89 = .ok (.getfield 16, 3) := by decide +kernel
theorem xd_R_count_92 : decode xb_R_count 92 = .ok (.bipush 12, 2) := by decide +kernel
theorem xd_R_count_94 : decode xb_R_count 94 = .ok (.iaload, 1) := by decide +kernel
theorem xd_R_count_95 : decode xb_R_count 95 = .ok (.ireturn, 1) := by decide +kernel
theorem xd_R_count_96 : decode xb_R_count 96 = .ok (.aload_n 0, 1) := by decide +kernel
theorem xd_R_count_97 : decode xb_R_count 97 = .ok (.getfield 16, 3) := by decide +kernel
theorem xd_R_count_100 : decode xb_R_count 100 = .ok (.bipush 12, 2) := by decide +kernel
theorem xd_R_count_102 : decode xb_R_count 102 = .ok (.iaload, 1) := by decide +kernel
theorem xd_R_count_103 : decode xb_R_count 103 = .ok (.ifCond .ne 7, 3) := by decide +kernel
theorem xd_R_count_106 : decode xb_R_count 106 = .ok (.iconst 0, 1) := by decide +kernel
theorem xd_R_count_107 : decode xb_R_count 107 = .ok (.goto 20, 3) := by decide +kernel
theorem xd_R_count_110 : decode xb_R_count 110 = .ok (.aload_n 0, 1) := by decide +kernel
theorem xd_R_count_111 : decode xb_R_count 111 = .ok (.getfield 22, 3) := by decide +kernel
theorem xd_R_count_114 : decode xb_R_count 114 = .ok (.bipush 36, 2) := by decide +kernel
theorem xd_R_count_116 : decode xb_R_count 116 = .ok (.aload_n 0, 1) := by decide +kernel
theorem xd_R_count_117 : decode xb_R_count 117 = .ok (.getfield 16, 3) := by decide +kernel
theorem xd_R_count_120 : decode xb_R_count 120 = .ok (.bipush 12, 2) := by decide +kernel
theorem xd_R_count_122 : decode xb_R_count 122 = .ok (.iaload, 1) := by decide +kernel
theorem xd_R_count_123 : decode xb_R_count 123 = .ok (.iadd, 1) := by decide +kernel
theorem xd_R_count_124 : decode xb_R_count 124 = .ok (.iconst 1, 1) := by decide +kernel
theorem xd_R_count_125 : decode xb_R_count 125 = .ok (.isub, 1) := by decide +kernel
theorem xd_R_count_126 : decode xb_R_count 126 = .ok (.iaload, 1) := by decide +kernel
theorem xd_R_count_127 : decode xb_R_count 127 = .ok (.ireturn, 1) := by decide +kernel
theorem xd_R_count_128 : decode xb_R_count 128 = .ok (.iload_n 2, 1) := by decide +kernel
theorem xd_R_count_129 : decode xb_R_count 129 = .ok (.ireturn, 1) := by decide +kernel
theorem xd_R_count_130 : decode xb_R_count 130 = .ok (.iload_n 3, 1) := by decide +kernel
theorem xd_R_count_131 : decode xb_R_count 131 = .ok (.ireturn, 1) := by decide +kernel
theorem xd_R_count_132 : decode xb_R_count 132 = .ok (.aload_n 0, 1) := by decide +kernel
theorem xd_R_count_133 : decode xb_R_count 133 = .ok (.invokevirtual 120, 3) := by decide +kernel
theorem xd_R_count_136 : decode xb_R_count 136 = .ok (.ireturn, 1) := by decide +kernel
theorem xd_R_count_137 : decode xb_R_count 137 = .ok (.aload_n 0, 1) := by decide +kernel
theorem xd_R_count_138 : decode xb_R_count 138 = .ok (.getfield 106, 3) := by decide +kernel
theorem xd_R_count_141 : decode xb_R_count 141 = .ok (.ireturn, 1) := by decide +kernel
theorem xd_R_count_142 : decode xb_R_count 142 = .ok (.iconst (-1), 1) := by decide +kernel
theorem xd_R_count_143 : decode xb_R_count 143 = .ok (.ireturn, 1) := by decide +kernel
section
variable {l : Launch} {D : va_G} {ad : Nat → Nat} {ids : Nat → ClassId} {ps : Nat}
def xq_R_run_70  : Nat → aw_m → Int32 → Int32 → Int32 → Int32 → Int32 → Option (Int32 × aw_m)
  | 0, _, _, _, _, _, _ => none
  | n + 1, σ, v1, v2, v3, v4, v5 => (if σ 0 22 ≤ 0 then (if v5 = 0 then aw_l (aw_p σ 0 14 (σ 19 (Int32.toNatClampNeg (0 : Int32)))) fun s_250 => some (v5, s_250) else some (v5, σ)) else (if v5 = 0 then aw_l (aw_p σ 0 22 ((σ 0 22) - (1 : Int32))) fun s_89 => if aw_in (s_89 0 22) 300 = true then if aw_in (s_89 0 22) 300 = true then if aw_in (s_89 0 22) 300 = true then (if s_89 16 (Int32.toNatClampNeg (s_89 0 22)) = 0 then (if s_89 0 15 = (120 : Int32) then xq_R_run_70 n s_89 v1 v2 v3 v4 (-10 : Int32) else (xm_R_begin2 s_89 (s_89 17 (Int32.toNatClampNeg (s_89 0 22))) (s_89 18 (Int32.toNatClampNeg (s_89 0 22)))).bind fun q_147 => xq_R_run_70 n q_147 v1 v2 v3 v4 v5) else if aw_in (s_89 0 22) 300 = true then (if s_89 16 (Int32.toNatClampNeg (s_89 0 22)) = (1 : Int32) then (xm_R_use s_89 (s_89 17 (Int32.toNatClampNeg (s_89 0 22))) (s_89 18 (Int32.toNatClampNeg (s_89 0 22)))).bind fun q_171 => xq_R_run_70 n q_171.2 v1 v2 v3 v4 q_171.1 else if aw_in (s_89 0 22) 300 = true then (if s_89 16 (Int32.toNatClampNeg (s_89 0 22)) = (2 : Int32) then (xm_R_take s_89 ).bind fun q_193 => xq_R_run_70 n q_193.2 v1 v2 v3 v4 v5 else (xm_R_end s_89 ((s_89 17 (Int32.toNatClampNeg (s_89 0 22))) + (1 : Int32))).bind fun q_205 => (xm_R_take s_89 ).bind fun q_213 => (if q_213.1 = 0 then (xm_R_end q_213.2 q_205).bind fun q_227 => (xm_R_push q_213.2 (0 : Int32) q_227 (s_89 18 (Int32.toNatClampNeg (s_89 0 22)))).bind fun q_232 => xq_R_run_70 n q_232 v1 v2 v3 v4 v5 else (xm_R_push q_213.2 (0 : Int32) q_205 (s_89 18 (Int32.toNatClampNeg (s_89 0 22)))).bind fun q_232 => xq_R_run_70 n q_232 v1 v2 v3 v4 v5)) else none) else none) else none else none else none else (if v5 = 0 then aw_l (aw_p σ 0 14 (σ 19 (Int32.toNatClampNeg (0 : Int32)))) fun s_250 => some (v5, s_250) else some (v5, σ))))
def xm_R_run (σ : aw_m) (a1 : Int32) (a2 : Int32) (a3 : Int32) (a4 : Int32) : Option (Int32 × aw_m) := (xm_R_in σ a1 (0 : Int32) (5 : Int32)).bind fun q_3 => (if q_3 = 0 then some ((-1 : Int32), σ) else if aw_in ((6 : Int32) + a1) 13 = true then (if σ 1 (Int32.toNatClampNeg ((6 : Int32) + a1)) = 0 then some ((-1 : Int32), σ) else if aw_in ((6 : Int32) + a1) 13 = true then (xm_R_in σ a2 (0 : Int32) ((σ 3 (Int32.toNatClampNeg ((6 : Int32) + a1))) - (1 : Int32))).bind fun q_34 => (if q_34 = 0 then some ((-1 : Int32), σ) else aw_l (aw_p σ 0 22 (0 : Int32)) fun s_44 => aw_l (aw_p s_44 0 24 (0 : Int32)) fun s_49 => aw_l (aw_p s_49 0 15 (0 : Int32)) fun s_54 => (xm_R_enter s_54 (0 : Int32) a1 a2 a3 a4).bind fun q_64 => xq_R_run_70 1000 q_64 a1 a2 a3 a4 (0 : Int32)) else none) else none)
set_option maxHeartbeats 4000000 in
set_option maxRecDepth 100000 in
theorem xl_R_run_70  {κ : aw_K} (q : Int32 × aw_m) (C : aw_X l D (ty_z ids) (zs_T ps) (rm_D (3)) xb_R_run 9 "ModuleShelfModel" (xw_R_run :: gw_l) (some .int) (some (.int q.1)) (rw_w ad ids q.2) κ) : ∀ (n : Nat) (σ : aw_m) (v1 : Int32) (v2 : Int32) (v3 : Int32) (v4 : Int32) (v5 : Int32) , xq_R_run_70 n σ v1 v2 v3 v4 v5 = some q → aw_J κ 0 0 (rw_w ad ids σ) [(0, .ref (ad 0)), (1, .int v1), (2, .int v2), (3, .int v3), (4, .int v4), (5, .int v5)] 70 [] := by
  intro n
  induction n with
  | zero => intro σ v1 v2 v3 v4 v5 hm; cases hm
  | succ n ih =>
    intro σ v1 v2 v3 v4 v5 hm
    rw [xq_R_run_70] at hm
    refine aw_aload_n C 0 xd_R_run_70 rfl rfl ?_
    refine aw_get C 0 (by decide) rfl rfl (fun w h => List.mem_cons_of_mem _ (xi_R w h)) 22 (by decide) rfl (List.mem_cons_of_mem _ fl_R_124) xd_R_run_71 ?_
    refine aw_if_le (tgt := 238) C xd_R_run_74 (by decide) (fun c_74 => ?_) (fun c_74 => ?_)
    · rw [if_pos c_74] at hm
      refine aw_iload C 5 xd_R_run_238 rfl ?_
      refine aw_if_ne (tgt := 253) C xd_R_run_240 (by decide) (fun c_240 => ?_) (fun c_240 => ?_)
      · rw [if_neg c_240] at hm
        refine aw_iload C 5 xd_R_run_253 rfl ?_
        cases hm
        exact aw_iret C xd_R_run_255
      · rw [if_pos c_240] at hm
        refine aw_aload_n C 0 xd_R_run_243 rfl rfl ?_
        refine aw_aload_n C 0 xd_R_run_244 rfl rfl ?_
        refine aw_get C 0 (by decide) rfl rfl (fun w h => List.mem_cons_of_mem _ (xi_R w h)) 23 (by decide) rfl (List.mem_cons_of_mem _ fl_R_68) xd_R_run_245 ?_
        refine aw_iconst (v := (0 : Int32)) C xd_R_run_248 (by decide) ?_
        refine aw_iald C 19 (by decide) 0 rfl rfl (aw_in_ok rfl) xd_R_run_249 ?_
        obtain ⟨s_250, h_250, hm⟩ := aw_let hm
        refine aw_put (σ1 := s_250) (f := upd (σ 0) 14 (σ 19 (Int32.toNatClampNeg (0 : Int32)))) C 0 (by decide) rfl rfl (fun w h => List.mem_cons_of_mem _ (xi_R w h)) xk_R xo_R xn_R 14 (by decide) (List.mem_cons_of_mem _ fl_R_156) rfl (ty := .int) (by decide +kernel) rfl rfl (Nat.le_of_ble_eq_true rfl) rfl h_250 xd_R_run_250 ?_
        refine aw_iload C 5 xd_R_run_253 rfl ?_
        cases hm
        exact aw_iret C xd_R_run_255
    · rw [if_neg c_74] at hm
      refine aw_iload C 5 xd_R_run_77 rfl ?_
      refine aw_if_ne (tgt := 238) C xd_R_run_79 (by decide) (fun c_79 => ?_) (fun c_79 => ?_)
      · rw [if_neg c_79] at hm
        refine aw_iload C 5 xd_R_run_238 rfl ?_
        refine aw_if_ne (tgt := 253) C xd_R_run_240 (by decide) (fun c_240 => ?_) (fun c_240 => ?_)
        · rw [if_neg c_240] at hm
          refine aw_iload C 5 xd_R_run_253 rfl ?_
          cases hm
          exact aw_iret C xd_R_run_255
        · rw [if_pos c_240] at hm
          refine aw_aload_n C 0 xd_R_run_243 rfl rfl ?_
          refine aw_aload_n C 0 xd_R_run_244 rfl rfl ?_
          refine aw_get C 0 (by decide) rfl rfl (fun w h => List.mem_cons_of_mem _ (xi_R w h)) 23 (by decide) rfl (List.mem_cons_of_mem _ fl_R_68) xd_R_run_245 ?_
          refine aw_iconst (v := (0 : Int32)) C xd_R_run_248 (by decide) ?_
          refine aw_iald C 19 (by decide) 0 rfl rfl (aw_in_ok rfl) xd_R_run_249 ?_
          obtain ⟨s_250, h_250, hm⟩ := aw_let hm
          refine aw_put (σ1 := s_250) (f := upd (σ 0) 14 (σ 19 (Int32.toNatClampNeg (0 : Int32)))) C 0 (by decide) rfl rfl (fun w h => List.mem_cons_of_mem _ (xi_R w h)) xk_R xo_R xn_R 14 (by decide) (List.mem_cons_of_mem _ fl_R_156) rfl (ty := .int) (by decide +kernel) rfl rfl (Nat.le_of_ble_eq_true rfl) rfl h_250 xd_R_run_250 ?_
          refine aw_iload C 5 xd_R_run_253 rfl ?_
          cases hm
          exact aw_iret C xd_R_run_255
      · rw [if_pos c_79] at hm
        refine aw_aload_n C 0 xd_R_run_82 rfl rfl ?_
        refine aw_dup C xd_R_run_83 rfl ?_
        refine aw_get C 0 (by decide) rfl rfl (fun w h => List.mem_cons_of_mem _ (xi_R w h)) 22 (by decide) rfl (List.mem_cons_of_mem _ fl_R_124) xd_R_run_84 ?_
        refine aw_iconst (v := (1 : Int32)) C xd_R_run_87 (by decide) ?_
        refine aw_isub C xd_R_run_88 ?_
        obtain ⟨s_89, h_89, hm⟩ := aw_let hm
        refine aw_put (σ1 := s_89) (f := upd (σ 0) 22 ((σ 0 22) - (1 : Int32))) C 0 (by decide) rfl rfl (fun w h => List.mem_cons_of_mem _ (xi_R w h)) xk_R xo_R xn_R 22 (by decide) (List.mem_cons_of_mem _ fl_R_124) rfl (ty := .int) (by decide +kernel) rfl rfl (Nat.le_of_ble_eq_true rfl) rfl h_89 xd_R_run_89 ?_
        refine aw_aload_n C 0 xd_R_run_92 rfl rfl ?_
        refine aw_get C 0 (by decide) rfl rfl (fun w h => List.mem_cons_of_mem _ (xi_R w h)) 20 (by decide) rfl (List.mem_cons_of_mem _ fl_R_62) xd_R_run_93 ?_
        refine aw_aload_n C 0 xd_R_run_96 rfl rfl ?_
        refine aw_get C 0 (by decide) rfl rfl (fun w h => List.mem_cons_of_mem _ (xi_R w h)) 22 (by decide) rfl (List.mem_cons_of_mem _ fl_R_124) xd_R_run_97 ?_
        obtain ⟨g_100, hm⟩ := aw_grd hm
        refine aw_iald C 17 (by decide) 0 rfl rfl (aw_in_ok g_100) xd_R_run_100 ?_
        refine aw_istore (L' := [(6, .int (s_89 17 (Int32.toNatClampNeg (s_89 0 22)))), (0, .ref (ad 0)), (1, .int v1), (2, .int v2), (3, .int v3), (4, .int v4), (5, .int v5)]) C xd_R_run_101 (by decide) rfl ?_
        refine aw_aload_n C 1 xd_R_run_103 rfl rfl ?_
        refine aw_get C 0 (by decide) rfl rfl (fun w h => List.mem_cons_of_mem _ (xi_R w h)) 21 (by decide) rfl (List.mem_cons_of_mem _ fl_R_65) xd_R_run_104 ?_
        refine aw_aload_n C 1 xd_R_run_107 rfl rfl ?_
        refine aw_get C 0 (by decide) rfl rfl (fun w h => List.mem_cons_of_mem _ (xi_R w h)) 22 (by decide) rfl (List.mem_cons_of_mem _ fl_R_124) xd_R_run_108 ?_
        obtain ⟨g_111, hm⟩ := aw_grd hm
        refine aw_iald C 18 (by decide) 0 rfl rfl (aw_in_ok g_111) xd_R_run_111 ?_
        refine aw_istore (L' := [(7, .int (s_89 18 (Int32.toNatClampNeg (s_89 0 22)))), (6, .int (s_89 17 (Int32.toNatClampNeg (s_89 0 22)))), (0, .ref (ad 0)), (1, .int v1), (2, .int v2), (3, .int v3), (4, .int v4), (5, .int v5)]) C xd_R_run_112 (by decide) rfl ?_
        refine aw_aload_n C 2 xd_R_run_114 rfl rfl ?_
        refine aw_get C 0 (by decide) rfl rfl (fun w h => List.mem_cons_of_mem _ (xi_R w h)) 19 (by decide) rfl (List.mem_cons_of_mem _ fl_R_59) xd_R_run_115 ?_
        refine aw_aload_n C 2 xd_R_run_118 rfl rfl ?_
        refine aw_get C 0 (by decide) rfl rfl (fun w h => List.mem_cons_of_mem _ (xi_R w h)) 22 (by decide) rfl (List.mem_cons_of_mem _ fl_R_124) xd_R_run_119 ?_
        obtain ⟨g_122, hm⟩ := aw_grd hm
        refine aw_iald C 16 (by decide) 0 rfl rfl (aw_in_ok g_122) xd_R_run_122 ?_
        refine aw_if_ne (tgt := 153) C xd_R_run_123 (by decide) (fun c_123 => ?_) (fun c_123 => ?_)
        · rw [if_neg c_123] at hm
          refine aw_aload_n C 2 xd_R_run_153 rfl rfl ?_
          refine aw_get C 0 (by decide) rfl rfl (fun w h => List.mem_cons_of_mem _ (xi_R w h)) 19 (by decide) rfl (List.mem_cons_of_mem _ fl_R_59) xd_R_run_154 ?_
          refine aw_aload_n C 2 xd_R_run_157 rfl rfl ?_
          refine aw_get C 0 (by decide) rfl rfl (fun w h => List.mem_cons_of_mem _ (xi_R w h)) 22 (by decide) rfl (List.mem_cons_of_mem _ fl_R_124) xd_R_run_158 ?_
          obtain ⟨g_161, hm⟩ := aw_grd hm
          refine aw_iald C 16 (by decide) 0 rfl rfl (aw_in_ok g_161) xd_R_run_161 ?_
          refine aw_iconst (v := (1 : Int32)) C xd_R_run_162 (by decide) ?_
          refine aw_icmp_ne (tgt := 179) C xd_R_run_163 (by decide) (fun c_163 => ?_) (fun c_163 => ?_)
          · rw [if_neg c_163] at hm
            refine aw_aload_n C 2 xd_R_run_179 rfl rfl ?_
            refine aw_get C 0 (by decide) rfl rfl (fun w h => List.mem_cons_of_mem _ (xi_R w h)) 19 (by decide) rfl (List.mem_cons_of_mem _ fl_R_59) xd_R_run_180 ?_
            refine aw_aload_n C 2 xd_R_run_183 rfl rfl ?_
            refine aw_get C 0 (by decide) rfl rfl (fun w h => List.mem_cons_of_mem _ (xi_R w h)) 22 (by decide) rfl (List.mem_cons_of_mem _ fl_R_124) xd_R_run_184 ?_
            obtain ⟨g_187, hm⟩ := aw_grd hm
            refine aw_iald C 16 (by decide) 0 rfl rfl (aw_in_ok g_187) xd_R_run_187 ?_
            refine aw_iconst (v := (2 : Int32)) C xd_R_run_188 (by decide) ?_
            refine aw_icmp_ne (tgt := 200) C xd_R_run_189 (by decide) (fun c_189 => ?_) (fun c_189 => ?_)
            · rw [if_neg c_189] at hm
              refine aw_aload_n C 2 xd_R_run_200 rfl rfl ?_
              refine aw_iload C 1 xd_R_run_201 rfl ?_
              refine aw_iconst (v := (1 : Int32)) C xd_R_run_203 (by decide) ?_
              refine aw_iadd C xd_R_run_204 ?_
              obtain ⟨q_205, e_205, hm⟩ := aw_bnd hm
              refine aw_callVi (As := [.int ((s_89 17 (Int32.toNatClampNeg (s_89 0 22))) + (1 : Int32))]) (rest := []) (b := ad 0) C (xc_R_end s_89 ((s_89 17 (Int32.toNatClampNeg (s_89 0 22))) + (1 : Int32)) _  e_205) rfl (gw_sub (gw_V xg_R_end ml_R_149 im_R_end se_R_end wi_R)) na_R_end (rm_lt (by decide) (by decide)) ⟨Nat.zero_le _, Nat.zero_le _⟩ 0 at_R rfl rfl (Nat.le_of_ble_eq_true rfl) xd_R_run_205 ?_
              refine aw_istore (L' := [(8, .int q_205), (7, .int (s_89 18 (Int32.toNatClampNeg (s_89 0 22)))), (6, .int (s_89 17 (Int32.toNatClampNeg (s_89 0 22)))), (0, .ref (ad 0)), (1, .int v1), (2, .int v2), (3, .int v3), (4, .int v4), (5, .int v5)]) C xd_R_run_208 (by decide) rfl ?_
              refine aw_aload_n C 3 xd_R_run_210 rfl rfl ?_
              refine aw_iconst (v := (0 : Int32)) C xd_R_run_211 (by decide) ?_
              refine aw_aload_n C 3 xd_R_run_212 rfl rfl ?_
              obtain ⟨q_213, e_213, hm⟩ := aw_bnd hm
              refine aw_callVi (As := []) (rest := [.int (0 : Int32), .ref (ad 0)]) (b := ad 0) C (xc_R_take s_89  _  e_213) rfl (gw_sub (gw_V xg_R_take ml_R_146 im_R_take se_R_take wi_R)) na_R_take (rm_lt (by decide) (by decide)) ⟨Nat.zero_le _, Nat.zero_le _⟩ 0 at_R rfl rfl (Nat.le_of_ble_eq_true rfl) xd_R_run_213 ?_
              refine aw_if_eq (tgt := 224) C xd_R_run_216 (by decide) (fun c_216 => ?_) (fun c_216 => ?_)
              · rw [if_pos c_216] at hm
                refine aw_aload_n C 3 xd_R_run_224 rfl rfl ?_
                refine aw_iload C 0 xd_R_run_225 rfl ?_
                obtain ⟨q_227, e_227, hm⟩ := aw_bnd hm
                refine aw_callVi (As := [.int q_205]) (rest := [.int (0 : Int32), .ref (ad 0)]) (b := ad 0) C (xc_R_end q_213.2 q_205 _  e_227) rfl (gw_sub (gw_V xg_R_end ml_R_149 im_R_end se_R_end wi_R)) na_R_end (rm_lt (by decide) (by decide)) ⟨Nat.zero_le _, Nat.zero_le _⟩ 0 at_R rfl rfl (Nat.le_of_ble_eq_true rfl) xd_R_run_227 ?_
                refine aw_iload C 1 xd_R_run_230 rfl ?_
                obtain ⟨q_232, e_232, hm⟩ := aw_bnd hm
                refine aw_callVv (As := [.int (0 : Int32), .int q_227, .int (s_89 18 (Int32.toNatClampNeg (s_89 0 22)))]) (rest := []) (b := ad 0) C (xc_R_push q_213.2 (0 : Int32) q_227 (s_89 18 (Int32.toNatClampNeg (s_89 0 22))) _  e_232) rfl (gw_sub (gw_V xg_R_push ml_R_152 im_R_push se_R_push wi_R)) na_R_push (rm_lt (by decide) (by decide)) ⟨Nat.zero_le _, Nat.zero_le _⟩ 0 at_R rfl rfl (Nat.le_of_ble_eq_true rfl) xd_R_run_232 ?_
                refine aw_goto (tgt := 70) C xd_R_run_235 (by decide) ?_
                refine aw_loc (L' := [(0, .ref (ad 0)), (1, .int v1), (2, .int v2), (3, .int v3), (4, .int v4), (5, .int v5)]) C [3, 4, 5, 6, 7, 8] rfl ?_
                exact ih q_232 v1 v2 v3 v4 v5  hm
              · rw [if_neg c_216] at hm
                refine aw_iload C 0 xd_R_run_219 rfl ?_
                refine aw_goto (tgt := 230) C xd_R_run_221 (by decide) ?_
                refine aw_iload C 1 xd_R_run_230 rfl ?_
                obtain ⟨q_232, e_232, hm⟩ := aw_bnd hm
                refine aw_callVv (As := [.int (0 : Int32), .int q_205, .int (s_89 18 (Int32.toNatClampNeg (s_89 0 22)))]) (rest := []) (b := ad 0) C (xc_R_push q_213.2 (0 : Int32) q_205 (s_89 18 (Int32.toNatClampNeg (s_89 0 22))) _  e_232) rfl (gw_sub (gw_V xg_R_push ml_R_152 im_R_push se_R_push wi_R)) na_R_push (rm_lt (by decide) (by decide)) ⟨Nat.zero_le _, Nat.zero_le _⟩ 0 at_R rfl rfl (Nat.le_of_ble_eq_true rfl) xd_R_run_232 ?_
                refine aw_goto (tgt := 70) C xd_R_run_235 (by decide) ?_
                refine aw_loc (L' := [(0, .ref (ad 0)), (1, .int v1), (2, .int v2), (3, .int v3), (4, .int v4), (5, .int v5)]) C [3, 4, 5, 6, 7, 8] rfl ?_
                exact ih q_232 v1 v2 v3 v4 v5  hm
            · rw [if_pos c_189] at hm
              refine aw_aload_n C 2 xd_R_run_192 rfl rfl ?_
              obtain ⟨q_193, e_193, hm⟩ := aw_bnd hm
              refine aw_callVi (As := []) (rest := []) (b := ad 0) C (xc_R_take s_89  _  e_193) rfl (gw_sub (gw_V xg_R_take ml_R_146 im_R_take se_R_take wi_R)) na_R_take (rm_lt (by decide) (by decide)) ⟨Nat.zero_le _, Nat.zero_le _⟩ 0 at_R rfl rfl (Nat.le_of_ble_eq_true rfl) xd_R_run_193 ?_
              refine aw_pop C xd_R_run_196 rfl ?_
              refine aw_goto (tgt := 235) C xd_R_run_197 (by decide) ?_
              refine aw_goto (tgt := 70) C xd_R_run_235 (by decide) ?_
              refine aw_loc (L' := [(0, .ref (ad 0)), (1, .int v1), (2, .int v2), (3, .int v3), (4, .int v4), (5, .int v5)]) C [2, 3, 4, 5, 6, 7] rfl ?_
              exact ih q_193.2 v1 v2 v3 v4 v5  hm
          · rw [if_pos c_163] at hm
            refine aw_aload_n C 2 xd_R_run_166 rfl rfl ?_
            refine aw_iload C 1 xd_R_run_167 rfl ?_
            refine aw_iload C 0 xd_R_run_169 rfl ?_
            obtain ⟨q_171, e_171, hm⟩ := aw_bnd hm
            refine aw_callVi (As := [.int (s_89 17 (Int32.toNatClampNeg (s_89 0 22))), .int (s_89 18 (Int32.toNatClampNeg (s_89 0 22)))]) (rest := []) (b := ad 0) C (xc_R_use s_89 (s_89 17 (Int32.toNatClampNeg (s_89 0 22))) (s_89 18 (Int32.toNatClampNeg (s_89 0 22))) _  e_171) rfl (gw_sub (gw_V xg_R_use ml_R_143 im_R_use se_R_use wi_R)) na_R_use (rm_lt (by decide) (by decide)) ⟨Nat.zero_le _, Nat.zero_le _⟩ 0 at_R rfl rfl (Nat.le_of_ble_eq_true rfl) xd_R_run_171 ?_
            refine aw_istore (L' := [(5, .int q_171.1), (7, .int (s_89 18 (Int32.toNatClampNeg (s_89 0 22)))), (6, .int (s_89 17 (Int32.toNatClampNeg (s_89 0 22)))), (0, .ref (ad 0)), (1, .int v1), (2, .int v2), (3, .int v3), (4, .int v4)]) C xd_R_run_174 (by decide) rfl ?_
            refine aw_goto (tgt := 235) C xd_R_run_176 (by decide) ?_
            refine aw_goto (tgt := 70) C xd_R_run_235 (by decide) ?_
            refine aw_loc (L' := [(0, .ref (ad 0)), (1, .int v1), (2, .int v2), (3, .int v3), (4, .int v4), (5, .int q_171.1)]) C [3, 4, 5, 6, 7, 0] rfl ?_
            exact ih q_171.2 v1 v2 v3 v4 q_171.1  hm
        · rw [if_pos c_123] at hm
          refine aw_aload_n C 2 xd_R_run_126 rfl rfl ?_
          refine aw_get C 0 (by decide) rfl rfl (fun w h => List.mem_cons_of_mem _ (xi_R w h)) 15 (by decide) rfl (List.mem_cons_of_mem _ fl_R_133) xd_R_run_127 ?_
          refine aw_bipush (v := (120 : Int32)) C xd_R_run_130 (by decide) ?_
          refine aw_icmp_ne (tgt := 142) C xd_R_run_132 (by decide) (fun c_132 => ?_) (fun c_132 => ?_)
          · rw [if_neg c_132] at hm
            refine aw_aload_n C 2 xd_R_run_142 rfl rfl ?_
            refine aw_iload C 1 xd_R_run_143 rfl ?_
            refine aw_iload C 0 xd_R_run_145 rfl ?_
            obtain ⟨q_147, e_147, hm⟩ := aw_bnd hm
            refine aw_callVv (As := [.int (s_89 17 (Int32.toNatClampNeg (s_89 0 22))), .int (s_89 18 (Int32.toNatClampNeg (s_89 0 22)))]) (rest := []) (b := ad 0) C (xc_R_begin2 s_89 (s_89 17 (Int32.toNatClampNeg (s_89 0 22))) (s_89 18 (Int32.toNatClampNeg (s_89 0 22))) _  e_147) rfl (gw_sub (gw_V xg_R_begin2 ml_R_140 im_R_begin2 se_R_begin2 wi_R)) na_R_begin2 (rm_lt (by decide) (by decide)) ⟨Nat.zero_le _, Nat.zero_le _⟩ 0 at_R rfl rfl (Nat.le_of_ble_eq_true rfl) xd_R_run_147 ?_
            refine aw_goto (tgt := 235) C xd_R_run_150 (by decide) ?_
            refine aw_goto (tgt := 70) C xd_R_run_235 (by decide) ?_
            refine aw_loc (L' := [(0, .ref (ad 0)), (1, .int v1), (2, .int v2), (3, .int v3), (4, .int v4), (5, .int v5)]) C [2, 3, 4, 5, 6, 7] rfl ?_
            exact ih q_147 v1 v2 v3 v4 v5  hm
          · rw [if_pos c_132] at hm
            refine aw_bipush (v := (-10 : Int32)) C xd_R_run_135 (by decide) ?_
            refine aw_istore (L' := [(5, .int (-10 : Int32)), (7, .int (s_89 18 (Int32.toNatClampNeg (s_89 0 22)))), (6, .int (s_89 17 (Int32.toNatClampNeg (s_89 0 22)))), (0, .ref (ad 0)), (1, .int v1), (2, .int v2), (3, .int v3), (4, .int v4)]) C xd_R_run_137 (by decide) rfl ?_
            refine aw_goto (tgt := 235) C xd_R_run_139 (by decide) ?_
            refine aw_goto (tgt := 70) C xd_R_run_235 (by decide) ?_
            refine aw_loc (L' := [(0, .ref (ad 0)), (1, .int v1), (2, .int v2), (3, .int v3), (4, .int v4), (5, .int (-10 : Int32))]) C [3, 4, 5, 6, 7, 0] rfl ?_
            exact ih s_89 v1 v2 v3 v4 (-10 : Int32)  hm
set_option maxHeartbeats 4000000 in
set_option maxRecDepth 100000 in
theorem xc_R_run (σ : aw_m) (a1 : Int32) (a2 : Int32) (a3 : Int32) (a4 : Int32) (q : Int32 × aw_m)  (hm : xm_R_run σ a1 a2 a3 a4 = some q) : aw_M l D (ty_z ids) (zs_T ps) xy_R_run (xw_R_run :: gw_l) (rm_D (3)) [.ref (ad 0), .int a1, .int a2, .int a3, .int a4] (rw_w ad ids σ) (some (.int q.1)) (rw_w ad ids q.2) := by
  refine aw_intro (cc := xb_R_run) (n := 9) (ret := (some .int)) "ModuleShelfModel" rfl (by decide) rfl (Nat.le_of_ble_eq_true rfl) ?_
  intro κ C
  unfold xm_R_run at hm
  refine aw_iload_n C 1 xd_R_run_0 rfl rfl ?_
  refine aw_iconst (v := (0 : Int32)) C xd_R_run_1 (by decide) ?_
  refine aw_iconst (v := (5 : Int32)) C xd_R_run_2 (by decide) ?_
  obtain ⟨q_3, e_3, hm⟩ := aw_bnd hm
  refine aw_callSi (As := [.int a1, .int (0 : Int32), .int (5 : Int32)]) (rest := []) C (xc_R_in σ a1 (0 : Int32) (5 : Int32) _  e_3) rfl (gw_sub (gw_S xg_R_in ml_R_83 st_R_in wi_R)) na_R_in (rm_lt (by decide) (by decide)) ⟨Nat.zero_le _, Nat.zero_le _⟩ rfl (Nat.le_of_ble_eq_true rfl) xd_R_run_3 ?_
  refine aw_if_eq (tgt := 40) C xd_R_run_6 (by decide) (fun c_6 => ?_) (fun c_6 => ?_)
  · rw [if_pos c_6] at hm
    refine aw_iconst (v := (-1 : Int32)) C xd_R_run_40 (by decide) ?_
    cases hm
    exact aw_iret C xd_R_run_41
  · rw [if_neg c_6] at hm
    refine aw_aload_n C 0 xd_R_run_9 rfl rfl ?_
    refine aw_get C 0 (by decide) rfl rfl (fun w h => List.mem_cons_of_mem _ (xi_R w h)) 0 (by decide) rfl (List.mem_cons_of_mem _ fl_R_7) xd_R_run_10 ?_
    refine aw_bipush (v := (6 : Int32)) C xd_R_run_13 (by decide) ?_
    refine aw_iload_n C 1 xd_R_run_15 rfl rfl ?_
    refine aw_iadd C xd_R_run_16 ?_
    obtain ⟨g_17, hm⟩ := aw_grd hm
    refine aw_iald C 1 (by decide) 0 rfl rfl (aw_in_ok g_17) xd_R_run_17 ?_
    refine aw_if_eq (tgt := 40) C xd_R_run_18 (by decide) (fun c_18 => ?_) (fun c_18 => ?_)
    · rw [if_pos c_18] at hm
      refine aw_iconst (v := (-1 : Int32)) C xd_R_run_40 (by decide) ?_
      cases hm
      exact aw_iret C xd_R_run_41
    · rw [if_neg c_18] at hm
      refine aw_iload_n C 2 xd_R_run_21 rfl rfl ?_
      refine aw_iconst (v := (0 : Int32)) C xd_R_run_22 (by decide) ?_
      refine aw_aload_n C 0 xd_R_run_23 rfl rfl ?_
      refine aw_get C 0 (by decide) rfl rfl (fun w h => List.mem_cons_of_mem _ (xi_R w h)) 2 (by decide) rfl (List.mem_cons_of_mem _ fl_R_16) xd_R_run_24 ?_
      refine aw_bipush (v := (6 : Int32)) C xd_R_run_27 (by decide) ?_
      refine aw_iload_n C 1 xd_R_run_29 rfl rfl ?_
      refine aw_iadd C xd_R_run_30 ?_
      obtain ⟨g_31, hm⟩ := aw_grd hm
      refine aw_iald C 3 (by decide) 0 rfl rfl (aw_in_ok g_31) xd_R_run_31 ?_
      refine aw_iconst (v := (1 : Int32)) C xd_R_run_32 (by decide) ?_
      refine aw_isub C xd_R_run_33 ?_
      obtain ⟨q_34, e_34, hm⟩ := aw_bnd hm
      refine aw_callSi (As := [.int a2, .int (0 : Int32), .int ((σ 3 (Int32.toNatClampNeg ((6 : Int32) + a1))) - (1 : Int32))]) (rest := []) C (xc_R_in σ a2 (0 : Int32) ((σ 3 (Int32.toNatClampNeg ((6 : Int32) + a1))) - (1 : Int32)) _  e_34) rfl (gw_sub (gw_S xg_R_in ml_R_83 st_R_in wi_R)) na_R_in (rm_lt (by decide) (by decide)) ⟨Nat.zero_le _, Nat.zero_le _⟩ rfl (Nat.le_of_ble_eq_true rfl) xd_R_run_34 ?_
      refine aw_if_ne (tgt := 42) C xd_R_run_37 (by decide) (fun c_37 => ?_) (fun c_37 => ?_)
      · rw [if_neg c_37] at hm
        refine aw_aload_n C 0 xd_R_run_42 rfl rfl ?_
        refine aw_iconst (v := (0 : Int32)) C xd_R_run_43 (by decide) ?_
        obtain ⟨s_44, h_44, hm⟩ := aw_let hm
        refine aw_put (σ1 := s_44) (f := upd (σ 0) 22 (0 : Int32)) C 0 (by decide) rfl rfl (fun w h => List.mem_cons_of_mem _ (xi_R w h)) xk_R xo_R xn_R 22 (by decide) (List.mem_cons_of_mem _ fl_R_124) rfl (ty := .int) (by decide +kernel) rfl rfl (Nat.le_of_ble_eq_true rfl) rfl h_44 xd_R_run_44 ?_
        refine aw_aload_n C 0 xd_R_run_47 rfl rfl ?_
        refine aw_iconst (v := (0 : Int32)) C xd_R_run_48 (by decide) ?_
        obtain ⟨s_49, h_49, hm⟩ := aw_let hm
        refine aw_put (σ1 := s_49) (f := upd (s_44 0) 24 (0 : Int32)) C 0 (by decide) rfl rfl (fun w h => List.mem_cons_of_mem _ (xi_R w h)) xk_R xo_R xn_R 24 (by decide) (List.mem_cons_of_mem _ fl_R_127) rfl (ty := .int) (by decide +kernel) rfl rfl (Nat.le_of_ble_eq_true rfl) rfl h_49 xd_R_run_49 ?_
        refine aw_aload_n C 0 xd_R_run_52 rfl rfl ?_
        refine aw_iconst (v := (0 : Int32)) C xd_R_run_53 (by decide) ?_
        obtain ⟨s_54, h_54, hm⟩ := aw_let hm
        refine aw_put (σ1 := s_54) (f := upd (s_49 0) 15 (0 : Int32)) C 0 (by decide) rfl rfl (fun w h => List.mem_cons_of_mem _ (xi_R w h)) xk_R xo_R xn_R 15 (by decide) (List.mem_cons_of_mem _ fl_R_133) rfl (ty := .int) (by decide +kernel) rfl rfl (Nat.le_of_ble_eq_true rfl) rfl h_54 xd_R_run_54 ?_
        refine aw_aload_n C 0 xd_R_run_57 rfl rfl ?_
        refine aw_iconst (v := (0 : Int32)) C xd_R_run_58 (by decide) ?_
        refine aw_iload_n C 1 xd_R_run_59 rfl rfl ?_
        refine aw_iload_n C 2 xd_R_run_60 rfl rfl ?_
        refine aw_iload_n C 3 xd_R_run_61 rfl rfl ?_
        refine aw_iload C 4 xd_R_run_62 rfl ?_
        obtain ⟨q_64, e_64, hm⟩ := aw_bnd hm
        refine aw_callVv (As := [.int (0 : Int32), .int a1, .int a2, .int a3, .int a4]) (rest := []) (b := ad 0) C (xc_R_enter s_54 (0 : Int32) a1 a2 a3 a4 _  e_64) rfl (gw_sub (gw_V xg_R_enter ml_R_136 im_R_enter se_R_enter wi_R)) na_R_enter (rm_lt (by decide) (by decide)) ⟨Nat.zero_le _, Nat.zero_le _⟩ 0 at_R rfl rfl (Nat.le_of_ble_eq_true rfl) xd_R_run_64 ?_
        refine aw_iconst (v := (0 : Int32)) C xd_R_run_67 (by decide) ?_
        refine aw_istore (L' := [(5, .int (0 : Int32)), (0, .ref (ad 0)), (1, .int a1), (2, .int a2), (3, .int a3), (4, .int a4)]) C xd_R_run_68 (by decide) rfl ?_
        refine aw_loc (L' := [(0, .ref (ad 0)), (1, .int a1), (2, .int a2), (3, .int a3), (4, .int a4), (5, .int (0 : Int32))]) C [1, 2, 3, 4, 5, 0] rfl ?_
        exact xl_R_run_70 _ C 1000 q_64 a1 a2 a3 a4 (0 : Int32)  hm
      · rw [if_pos c_37] at hm
        refine aw_iconst (v := (-1 : Int32)) C xd_R_run_40 (by decide) ?_
        cases hm
        exact aw_iret C xd_R_run_41
def xm_R_value (σ : aw_m)  : Option Int32 := some (σ 0 14)
set_option maxHeartbeats 4000000 in
set_option maxRecDepth 100000 in
theorem xc_R_value (σ : aw_m)  (q : Int32)  (hm : xm_R_value σ  = some q) : aw_M l D (ty_z ids) (zs_T ps) xy_R_value (xw_R_value :: gw_l) (rm_D (0)) [.ref (ad 0)] (rw_w ad ids σ) (some (.int q)) (rw_w ad ids σ) := by
  refine aw_intro (cc := xb_R_value) (n := 1) (ret := (some .int)) "ModuleShelfModel" rfl (by decide) rfl (Nat.le_of_ble_eq_true rfl) ?_
  intro κ C
  unfold xm_R_value at hm
  refine aw_aload_n C 0 xd_R_value_0 rfl rfl ?_
  refine aw_get C 0 (by decide) rfl rfl (fun w h => List.mem_cons_of_mem _ (xi_R w h)) 14 (by decide) rfl (List.mem_cons_of_mem _ fl_R_156) xd_R_value_1 ?_
  cases hm
  exact aw_iret C xd_R_value_4
def xm_R_steps (σ : aw_m)  : Option Int32 := some (σ 0 15)
set_option maxHeartbeats 4000000 in
set_option maxRecDepth 100000 in
theorem xc_R_steps (σ : aw_m)  (q : Int32)  (hm : xm_R_steps σ  = some q) : aw_M l D (ty_z ids) (zs_T ps) xy_R_steps (xw_R_steps :: gw_l) (rm_D (0)) [.ref (ad 0)] (rw_w ad ids σ) (some (.int q)) (rw_w ad ids σ) := by
  refine aw_intro (cc := xb_R_steps) (n := 1) (ret := (some .int)) "ModuleShelfModel" rfl (by decide) rfl (Nat.le_of_ble_eq_true rfl) ?_
  intro κ C
  unfold xm_R_steps at hm
  refine aw_aload_n C 0 xd_R_steps_0 rfl rfl ?_
  refine aw_get C 0 (by decide) rfl rfl (fun w h => List.mem_cons_of_mem _ (xi_R w h)) 15 (by decide) rfl (List.mem_cons_of_mem _ fl_R_133) xd_R_steps_1 ?_
  cases hm
  exact aw_iret C xd_R_steps_4
def xm_R_variable (σ : aw_m) (a1 : Int32) (a2 : Int32) : Option Int32 := (xm_R_in σ a1 (0 : Int32) (5 : Int32)).bind fun q_3 => (if q_3 = 0 then some (0 : Int32) else if aw_in ((6 : Int32) + a1) 13 = true then (if σ 1 (Int32.toNatClampNeg ((6 : Int32) + a1)) ≤ 0 then some (0 : Int32) else if aw_in ((6 : Int32) + a1) 13 = true then (xm_R_in σ a2 (0 : Int32) ((σ 2 (Int32.toNatClampNeg ((6 : Int32) + a1))) - (1 : Int32))).bind fun q_34 => (if q_34 = 0 then some (0 : Int32) else if aw_in (((3 : Int32) * a1) + a2) 18 = true then some (σ 12 (Int32.toNatClampNeg (((3 : Int32) * a1) + a2))) else none) else none) else none)
set_option maxHeartbeats 4000000 in
set_option maxRecDepth 100000 in
theorem xc_R_variable (σ : aw_m) (a1 : Int32) (a2 : Int32) (q : Int32)  (hm : xm_R_variable σ a1 a2 = some q) : aw_M l D (ty_z ids) (zs_T ps) xy_R_variable (xw_R_variable :: gw_l) (rm_D (1)) [.ref (ad 0), .int a1, .int a2] (rw_w ad ids σ) (some (.int q)) (rw_w ad ids σ) := by
  refine aw_intro (cc := xb_R_variable) (n := 3) (ret := (some .int)) "ModuleShelfModel" rfl (by decide) rfl (Nat.le_of_ble_eq_true rfl) ?_
  intro κ C
  unfold xm_R_variable at hm
  refine aw_iload_n C 1 xd_R_variable_0 rfl rfl ?_
  refine aw_iconst (v := (0 : Int32)) C xd_R_variable_1 (by decide) ?_
  refine aw_iconst (v := (5 : Int32)) C xd_R_variable_2 (by decide) ?_
  obtain ⟨q_3, e_3, hm⟩ := aw_bnd hm
  refine aw_callSi (As := [.int a1, .int (0 : Int32), .int (5 : Int32)]) (rest := []) C (xc_R_in σ a1 (0 : Int32) (5 : Int32) _  e_3) rfl (gw_sub (gw_S xg_R_in ml_R_83 st_R_in wi_R)) na_R_in (rm_lt (by decide) (by decide)) ⟨Nat.zero_le _, Nat.zero_le _⟩ rfl (Nat.le_of_ble_eq_true rfl) xd_R_variable_3 ?_
  refine aw_if_eq (tgt := 53) C xd_R_variable_6 (by decide) (fun c_6 => ?_) (fun c_6 => ?_)
  · rw [if_pos c_6] at hm
    refine aw_iconst (v := (0 : Int32)) C xd_R_variable_53 (by decide) ?_
    cases hm
    exact aw_iret C xd_R_variable_54
  · rw [if_neg c_6] at hm
    refine aw_aload_n C 0 xd_R_variable_9 rfl rfl ?_
    refine aw_get C 0 (by decide) rfl rfl (fun w h => List.mem_cons_of_mem _ (xi_R w h)) 0 (by decide) rfl (List.mem_cons_of_mem _ fl_R_7) xd_R_variable_10 ?_
    refine aw_bipush (v := (6 : Int32)) C xd_R_variable_13 (by decide) ?_
    refine aw_iload_n C 1 xd_R_variable_15 rfl rfl ?_
    refine aw_iadd C xd_R_variable_16 ?_
    obtain ⟨g_17, hm⟩ := aw_grd hm
    refine aw_iald C 1 (by decide) 0 rfl rfl (aw_in_ok g_17) xd_R_variable_17 ?_
    refine aw_if_le (tgt := 53) C xd_R_variable_18 (by decide) (fun c_18 => ?_) (fun c_18 => ?_)
    · rw [if_pos c_18] at hm
      refine aw_iconst (v := (0 : Int32)) C xd_R_variable_53 (by decide) ?_
      cases hm
      exact aw_iret C xd_R_variable_54
    · rw [if_neg c_18] at hm
      refine aw_iload_n C 2 xd_R_variable_21 rfl rfl ?_
      refine aw_iconst (v := (0 : Int32)) C xd_R_variable_22 (by decide) ?_
      refine aw_aload_n C 0 xd_R_variable_23 rfl rfl ?_
      refine aw_get C 0 (by decide) rfl rfl (fun w h => List.mem_cons_of_mem _ (xi_R w h)) 1 (by decide) rfl (List.mem_cons_of_mem _ fl_R_13) xd_R_variable_24 ?_
      refine aw_bipush (v := (6 : Int32)) C xd_R_variable_27 (by decide) ?_
      refine aw_iload_n C 1 xd_R_variable_29 rfl rfl ?_
      refine aw_iadd C xd_R_variable_30 ?_
      obtain ⟨g_31, hm⟩ := aw_grd hm
      refine aw_iald C 2 (by decide) 0 rfl rfl (aw_in_ok g_31) xd_R_variable_31 ?_
      refine aw_iconst (v := (1 : Int32)) C xd_R_variable_32 (by decide) ?_
      refine aw_isub C xd_R_variable_33 ?_
      obtain ⟨q_34, e_34, hm⟩ := aw_bnd hm
      refine aw_callSi (As := [.int a2, .int (0 : Int32), .int ((σ 2 (Int32.toNatClampNeg ((6 : Int32) + a1))) - (1 : Int32))]) (rest := []) C (xc_R_in σ a2 (0 : Int32) ((σ 2 (Int32.toNatClampNeg ((6 : Int32) + a1))) - (1 : Int32)) _  e_34) rfl (gw_sub (gw_S xg_R_in ml_R_83 st_R_in wi_R)) na_R_in (rm_lt (by decide) (by decide)) ⟨Nat.zero_le _, Nat.zero_le _⟩ rfl (Nat.le_of_ble_eq_true rfl) xd_R_variable_34 ?_
      refine aw_if_eq (tgt := 53) C xd_R_variable_37 (by decide) (fun c_37 => ?_) (fun c_37 => ?_)
      · rw [if_pos c_37] at hm
        refine aw_iconst (v := (0 : Int32)) C xd_R_variable_53 (by decide) ?_
        cases hm
        exact aw_iret C xd_R_variable_54
      · rw [if_neg c_37] at hm
        refine aw_aload_n C 0 xd_R_variable_40 rfl rfl ?_
        refine aw_get C 0 (by decide) rfl rfl (fun w h => List.mem_cons_of_mem _ (xi_R w h)) 11 (by decide) rfl (List.mem_cons_of_mem _ fl_R_43) xd_R_variable_41 ?_
        refine aw_iconst (v := (3 : Int32)) C xd_R_variable_44 (by decide) ?_
        refine aw_iload_n C 1 xd_R_variable_45 rfl rfl ?_
        refine aw_imul C xd_R_variable_46 ?_
        refine aw_iload_n C 2 xd_R_variable_47 rfl rfl ?_
        refine aw_iadd C xd_R_variable_48 ?_
        obtain ⟨g_49, hm⟩ := aw_grd hm
        refine aw_iald C 12 (by decide) 0 rfl rfl (aw_in_ok g_49) xd_R_variable_49 ?_
        refine aw_goto (tgt := 54) C xd_R_variable_50 (by decide) ?_
        cases hm
        exact aw_iret C xd_R_variable_54
def xm_R_key (σ : aw_m) (a1 : Int32) : Option Int32 := (xm_R_in σ a1 (0 : Int32) (5 : Int32)).bind fun q_3 => (if q_3 = 0 then some (-1 : Int32) else if aw_in a1 13 = true then (if σ 1 (Int32.toNatClampNeg a1) ≤ 0 then some (-1 : Int32) else if aw_in a1 13 = true then some (σ 1 (Int32.toNatClampNeg a1)) else none) else none)
set_option maxHeartbeats 4000000 in
set_option maxRecDepth 100000 in
theorem xc_R_key (σ : aw_m) (a1 : Int32) (q : Int32)  (hm : xm_R_key σ a1 = some q) : aw_M l D (ty_z ids) (zs_T ps) xy_R_key (xw_R_key :: gw_l) (rm_D (1)) [.ref (ad 0), .int a1] (rw_w ad ids σ) (some (.int q)) (rw_w ad ids σ) := by
  refine aw_intro (cc := xb_R_key) (n := 2) (ret := (some .int)) "ModuleShelfModel" rfl (by decide) rfl (Nat.le_of_ble_eq_true rfl) ?_
  intro κ C
  unfold xm_R_key at hm
  refine aw_iload_n C 1 xd_R_key_0 rfl rfl ?_
  refine aw_iconst (v := (0 : Int32)) C xd_R_key_1 (by decide) ?_
  refine aw_iconst (v := (5 : Int32)) C xd_R_key_2 (by decide) ?_
  obtain ⟨q_3, e_3, hm⟩ := aw_bnd hm
  refine aw_callSi (As := [.int a1, .int (0 : Int32), .int (5 : Int32)]) (rest := []) C (xc_R_in σ a1 (0 : Int32) (5 : Int32) _  e_3) rfl (gw_sub (gw_S xg_R_in ml_R_83 st_R_in wi_R)) na_R_in (rm_lt (by decide) (by decide)) ⟨Nat.zero_le _, Nat.zero_le _⟩ rfl (Nat.le_of_ble_eq_true rfl) xd_R_key_3 ?_
  refine aw_if_eq (tgt := 27) C xd_R_key_6 (by decide) (fun c_6 => ?_) (fun c_6 => ?_)
  · rw [if_pos c_6] at hm
    refine aw_iconst (v := (-1 : Int32)) C xd_R_key_27 (by decide) ?_
    cases hm
    exact aw_iret C xd_R_key_28
  · rw [if_neg c_6] at hm
    refine aw_aload_n C 0 xd_R_key_9 rfl rfl ?_
    refine aw_get C 0 (by decide) rfl rfl (fun w h => List.mem_cons_of_mem _ (xi_R w h)) 0 (by decide) rfl (List.mem_cons_of_mem _ fl_R_7) xd_R_key_10 ?_
    refine aw_iload_n C 1 xd_R_key_13 rfl rfl ?_
    obtain ⟨g_14, hm⟩ := aw_grd hm
    refine aw_iald C 1 (by decide) 0 rfl rfl (aw_in_ok g_14) xd_R_key_14 ?_
    refine aw_if_le (tgt := 27) C xd_R_key_15 (by decide) (fun c_15 => ?_) (fun c_15 => ?_)
    · rw [if_pos c_15] at hm
      refine aw_iconst (v := (-1 : Int32)) C xd_R_key_27 (by decide) ?_
      cases hm
      exact aw_iret C xd_R_key_28
    · rw [if_neg c_15] at hm
      refine aw_aload_n C 0 xd_R_key_18 rfl rfl ?_
      refine aw_get C 0 (by decide) rfl rfl (fun w h => List.mem_cons_of_mem _ (xi_R w h)) 0 (by decide) rfl (List.mem_cons_of_mem _ fl_R_7) xd_R_key_19 ?_
      refine aw_iload_n C 1 xd_R_key_22 rfl rfl ?_
      obtain ⟨g_23, hm⟩ := aw_grd hm
      refine aw_iald C 1 (by decide) 0 rfl rfl (aw_in_ok g_23) xd_R_key_23 ?_
      refine aw_goto (tgt := 28) C xd_R_key_24 (by decide) ?_
      cases hm
      exact aw_iret C xd_R_key_28
def xm_R_loaded (σ : aw_m) (a1 : Int32) : Option Int32 := (xm_R_in σ a1 (0 : Int32) (5 : Int32)).bind fun q_3 => (if q_3 = 0 then some (-1 : Int32) else if aw_in ((6 : Int32) + a1) 13 = true then (if σ 1 (Int32.toNatClampNeg ((6 : Int32) + a1)) ≤ 0 then some (-1 : Int32) else if aw_in ((6 : Int32) + a1) 13 = true then some (σ 1 (Int32.toNatClampNeg ((6 : Int32) + a1))) else none) else none)
set_option maxHeartbeats 4000000 in
set_option maxRecDepth 100000 in
theorem xc_R_loaded (σ : aw_m) (a1 : Int32) (q : Int32)  (hm : xm_R_loaded σ a1 = some q) : aw_M l D (ty_z ids) (zs_T ps) xy_R_loaded (xw_R_loaded :: gw_l) (rm_D (1)) [.ref (ad 0), .int a1] (rw_w ad ids σ) (some (.int q)) (rw_w ad ids σ) := by
  refine aw_intro (cc := xb_R_loaded) (n := 2) (ret := (some .int)) "ModuleShelfModel" rfl (by decide) rfl (Nat.le_of_ble_eq_true rfl) ?_
  intro κ C
  unfold xm_R_loaded at hm
  refine aw_iload_n C 1 xd_R_loaded_0 rfl rfl ?_
  refine aw_iconst (v := (0 : Int32)) C xd_R_loaded_1 (by decide) ?_
  refine aw_iconst (v := (5 : Int32)) C xd_R_loaded_2 (by decide) ?_
  obtain ⟨q_3, e_3, hm⟩ := aw_bnd hm
  refine aw_callSi (As := [.int a1, .int (0 : Int32), .int (5 : Int32)]) (rest := []) C (xc_R_in σ a1 (0 : Int32) (5 : Int32) _  e_3) rfl (gw_sub (gw_S xg_R_in ml_R_83 st_R_in wi_R)) na_R_in (rm_lt (by decide) (by decide)) ⟨Nat.zero_le _, Nat.zero_le _⟩ rfl (Nat.le_of_ble_eq_true rfl) xd_R_loaded_3 ?_
  refine aw_if_eq (tgt := 33) C xd_R_loaded_6 (by decide) (fun c_6 => ?_) (fun c_6 => ?_)
  · rw [if_pos c_6] at hm
    refine aw_iconst (v := (-1 : Int32)) C xd_R_loaded_33 (by decide) ?_
    cases hm
    exact aw_iret C xd_R_loaded_34
  · rw [if_neg c_6] at hm
    refine aw_aload_n C 0 xd_R_loaded_9 rfl rfl ?_
    refine aw_get C 0 (by decide) rfl rfl (fun w h => List.mem_cons_of_mem _ (xi_R w h)) 0 (by decide) rfl (List.mem_cons_of_mem _ fl_R_7) xd_R_loaded_10 ?_
    refine aw_bipush (v := (6 : Int32)) C xd_R_loaded_13 (by decide) ?_
    refine aw_iload_n C 1 xd_R_loaded_15 rfl rfl ?_
    refine aw_iadd C xd_R_loaded_16 ?_
    obtain ⟨g_17, hm⟩ := aw_grd hm
    refine aw_iald C 1 (by decide) 0 rfl rfl (aw_in_ok g_17) xd_R_loaded_17 ?_
    refine aw_if_le (tgt := 33) C xd_R_loaded_18 (by decide) (fun c_18 => ?_) (fun c_18 => ?_)
    · rw [if_pos c_18] at hm
      refine aw_iconst (v := (-1 : Int32)) C xd_R_loaded_33 (by decide) ?_
      cases hm
      exact aw_iret C xd_R_loaded_34
    · rw [if_neg c_18] at hm
      refine aw_aload_n C 0 xd_R_loaded_21 rfl rfl ?_
      refine aw_get C 0 (by decide) rfl rfl (fun w h => List.mem_cons_of_mem _ (xi_R w h)) 0 (by decide) rfl (List.mem_cons_of_mem _ fl_R_7) xd_R_loaded_22 ?_
      refine aw_bipush (v := (6 : Int32)) C xd_R_loaded_25 (by decide) ?_
      refine aw_iload_n C 1 xd_R_loaded_27 rfl rfl ?_
      refine aw_iadd C xd_R_loaded_28 ?_
      obtain ⟨g_29, hm⟩ := aw_grd hm
      refine aw_iald C 1 (by decide) 0 rfl rfl (aw_in_ok g_29) xd_R_loaded_29 ?_
      refine aw_goto (tgt := 34) C xd_R_loaded_30 (by decide) ?_
      cases hm
      exact aw_iret C xd_R_loaded_34
def xm_R_imported (σ : aw_m) (a1 : Int32) (a2 : Int32) : Option Int32 := (xm_R_in σ a1 (0 : Int32) (5 : Int32)).bind fun q_3 => (if q_3 = 0 then some (-1 : Int32) else if aw_in a1 13 = true then (if σ 1 (Int32.toNatClampNeg a1) = 0 then some (-1 : Int32) else if aw_in a1 13 = true then (xm_R_in σ a2 (0 : Int32) ((σ 9 (Int32.toNatClampNeg a1)) - (1 : Int32))).bind fun q_28 => (if q_28 = 0 then some (-1 : Int32) else if aw_in (((5 : Int32) * a1) + a2) 65 = true then if aw_in (((5 : Int32) * a1) + a2) 65 = true then some ((σ 10 (Int32.toNatClampNeg (((5 : Int32) * a1) + a2))) + ((8 : Int32) * (σ 11 (Int32.toNatClampNeg (((5 : Int32) * a1) + a2))))) else none else none) else none) else none)
set_option maxHeartbeats 4000000 in
set_option maxRecDepth 100000 in
theorem xc_R_imported (σ : aw_m) (a1 : Int32) (a2 : Int32) (q : Int32)  (hm : xm_R_imported σ a1 a2 = some q) : aw_M l D (ty_z ids) (zs_T ps) xy_R_imported (xw_R_imported :: gw_l) (rm_D (1)) [.ref (ad 0), .int a1, .int a2] (rw_w ad ids σ) (some (.int q)) (rw_w ad ids σ) := by
  refine aw_intro (cc := xb_R_imported) (n := 3) (ret := (some .int)) "ModuleShelfModel" rfl (by decide) rfl (Nat.le_of_ble_eq_true rfl) ?_
  intro κ C
  unfold xm_R_imported at hm
  refine aw_iload_n C 1 xd_R_imported_0 rfl rfl ?_
  refine aw_iconst (v := (0 : Int32)) C xd_R_imported_1 (by decide) ?_
  refine aw_iconst (v := (5 : Int32)) C xd_R_imported_2 (by decide) ?_
  obtain ⟨q_3, e_3, hm⟩ := aw_bnd hm
  refine aw_callSi (As := [.int a1, .int (0 : Int32), .int (5 : Int32)]) (rest := []) C (xc_R_in σ a1 (0 : Int32) (5 : Int32) _  e_3) rfl (gw_sub (gw_S xg_R_in ml_R_83 st_R_in wi_R)) na_R_in (rm_lt (by decide) (by decide)) ⟨Nat.zero_le _, Nat.zero_le _⟩ rfl (Nat.le_of_ble_eq_true rfl) xd_R_imported_3 ?_
  refine aw_if_eq (tgt := 34) C xd_R_imported_6 (by decide) (fun c_6 => ?_) (fun c_6 => ?_)
  · rw [if_pos c_6] at hm
    refine aw_iconst (v := (-1 : Int32)) C xd_R_imported_34 (by decide) ?_
    cases hm
    exact aw_iret C xd_R_imported_35
  · rw [if_neg c_6] at hm
    refine aw_aload_n C 0 xd_R_imported_9 rfl rfl ?_
    refine aw_get C 0 (by decide) rfl rfl (fun w h => List.mem_cons_of_mem _ (xi_R w h)) 0 (by decide) rfl (List.mem_cons_of_mem _ fl_R_7) xd_R_imported_10 ?_
    refine aw_iload_n C 1 xd_R_imported_13 rfl rfl ?_
    obtain ⟨g_14, hm⟩ := aw_grd hm
    refine aw_iald C 1 (by decide) 0 rfl rfl (aw_in_ok g_14) xd_R_imported_14 ?_
    refine aw_if_eq (tgt := 34) C xd_R_imported_15 (by decide) (fun c_15 => ?_) (fun c_15 => ?_)
    · rw [if_pos c_15] at hm
      refine aw_iconst (v := (-1 : Int32)) C xd_R_imported_34 (by decide) ?_
      cases hm
      exact aw_iret C xd_R_imported_35
    · rw [if_neg c_15] at hm
      refine aw_iload_n C 2 xd_R_imported_18 rfl rfl ?_
      refine aw_iconst (v := (0 : Int32)) C xd_R_imported_19 (by decide) ?_
      refine aw_aload_n C 0 xd_R_imported_20 rfl rfl ?_
      refine aw_get C 0 (by decide) rfl rfl (fun w h => List.mem_cons_of_mem _ (xi_R w h)) 8 (by decide) rfl (List.mem_cons_of_mem _ fl_R_34) xd_R_imported_21 ?_
      refine aw_iload_n C 1 xd_R_imported_24 rfl rfl ?_
      obtain ⟨g_25, hm⟩ := aw_grd hm
      refine aw_iald C 9 (by decide) 0 rfl rfl (aw_in_ok g_25) xd_R_imported_25 ?_
      refine aw_iconst (v := (1 : Int32)) C xd_R_imported_26 (by decide) ?_
      refine aw_isub C xd_R_imported_27 ?_
      obtain ⟨q_28, e_28, hm⟩ := aw_bnd hm
      refine aw_callSi (As := [.int a2, .int (0 : Int32), .int ((σ 9 (Int32.toNatClampNeg a1)) - (1 : Int32))]) (rest := []) C (xc_R_in σ a2 (0 : Int32) ((σ 9 (Int32.toNatClampNeg a1)) - (1 : Int32)) _  e_28) rfl (gw_sub (gw_S xg_R_in ml_R_83 st_R_in wi_R)) na_R_in (rm_lt (by decide) (by decide)) ⟨Nat.zero_le _, Nat.zero_le _⟩ rfl (Nat.le_of_ble_eq_true rfl) xd_R_imported_28 ?_
      refine aw_if_ne (tgt := 36) C xd_R_imported_31 (by decide) (fun c_31 => ?_) (fun c_31 => ?_)
      · rw [if_neg c_31] at hm
        refine aw_aload_n C 0 xd_R_imported_36 rfl rfl ?_
        refine aw_get C 0 (by decide) rfl rfl (fun w h => List.mem_cons_of_mem _ (xi_R w h)) 9 (by decide) rfl (List.mem_cons_of_mem _ fl_R_37) xd_R_imported_37 ?_
        refine aw_iconst (v := (5 : Int32)) C xd_R_imported_40 (by decide) ?_
        refine aw_iload_n C 1 xd_R_imported_41 rfl rfl ?_
        refine aw_imul C xd_R_imported_42 ?_
        refine aw_iload_n C 2 xd_R_imported_43 rfl rfl ?_
        refine aw_iadd C xd_R_imported_44 ?_
        obtain ⟨g_45, hm⟩ := aw_grd hm
        refine aw_iald C 10 (by decide) 0 rfl rfl (aw_in_ok g_45) xd_R_imported_45 ?_
        refine aw_bipush (v := (8 : Int32)) C xd_R_imported_46 (by decide) ?_
        refine aw_aload_n C 0 xd_R_imported_48 rfl rfl ?_
        refine aw_get C 0 (by decide) rfl rfl (fun w h => List.mem_cons_of_mem _ (xi_R w h)) 10 (by decide) rfl (List.mem_cons_of_mem _ fl_R_40) xd_R_imported_49 ?_
        refine aw_iconst (v := (5 : Int32)) C xd_R_imported_52 (by decide) ?_
        refine aw_iload_n C 1 xd_R_imported_53 rfl rfl ?_
        refine aw_imul C xd_R_imported_54 ?_
        refine aw_iload_n C 2 xd_R_imported_55 rfl rfl ?_
        refine aw_iadd C xd_R_imported_56 ?_
        obtain ⟨g_57, hm⟩ := aw_grd hm
        refine aw_iald C 11 (by decide) 0 rfl rfl (aw_in_ok g_57) xd_R_imported_57 ?_
        refine aw_imul C xd_R_imported_58 ?_
        refine aw_iadd C xd_R_imported_59 ?_
        cases hm
        exact aw_iret C xd_R_imported_60
      · rw [if_pos c_31] at hm
        refine aw_iconst (v := (-1 : Int32)) C xd_R_imported_34 (by decide) ?_
        cases hm
        exact aw_iret C xd_R_imported_35
def xq_R_count_7 (σ : aw_m)  : Nat → Int32 → Int32 → Int32 → Int32 → Option Int32
  | 0, _, _, _, _ => none
  | n + 1, v1, v2, v3, v4 => (if (6 : Int32) ≤ v4 then (if v1 = (0 : Int32) then some (σ 3 (Int32.toNatClampNeg (12 : Int32))) else (if v1 = (1 : Int32) then (if σ 3 (Int32.toNatClampNeg (12 : Int32)) = 0 then some (0 : Int32) else if aw_in (((36 : Int32) + (σ 3 (Int32.toNatClampNeg (12 : Int32)))) - (1 : Int32)) 39 = true then some (σ 5 (Int32.toNatClampNeg (((36 : Int32) + (σ 3 (Int32.toNatClampNeg (12 : Int32)))) - (1 : Int32)))) else none) else (if v1 = (2 : Int32) then some v2 else (if v1 = (3 : Int32) then some v3 else (if v1 = (4 : Int32) then (xm_R_allCells σ ).bind fun q_133 => some q_133 else (if v1 = (5 : Int32) then some (σ 0 12) else some (-1 : Int32))))))) else if aw_in v4 13 = true then (if σ 1 (Int32.toNatClampNeg v4) ≤ 0 then if aw_in ((6 : Int32) + v4) 13 = true then (if σ 1 (Int32.toNatClampNeg ((6 : Int32) + v4)) ≤ 0 then xq_R_count_7 σ n v1 v2 v3 (v4 + (1 : Int32)) else xq_R_count_7 σ n v1 v2 (v3 + (1 : Int32)) (v4 + (1 : Int32))) else none else if aw_in ((6 : Int32) + v4) 13 = true then (if σ 1 (Int32.toNatClampNeg ((6 : Int32) + v4)) ≤ 0 then xq_R_count_7 σ n v1 (v2 + (1 : Int32)) v3 (v4 + (1 : Int32)) else xq_R_count_7 σ n v1 (v2 + (1 : Int32)) (v3 + (1 : Int32)) (v4 + (1 : Int32))) else none) else none)
def xm_R_count (σ : aw_m) (a1 : Int32) : Option Int32 := xq_R_count_7 σ 64 a1 (0 : Int32) (0 : Int32) (0 : Int32)
set_option maxHeartbeats 4000000 in
set_option maxRecDepth 100000 in
theorem xl_R_count_7 (σ : aw_m)  {κ : aw_K} (q : Int32) (C : aw_X l D (ty_z ids) (zs_T ps) (rm_D (2)) xb_R_count 5 "ModuleShelfModel" (xw_R_count :: gw_l) (some .int) (some (.int q)) (rw_w ad ids σ) κ) : ∀ (n : Nat) (v1 : Int32) (v2 : Int32) (v3 : Int32) (v4 : Int32) , xq_R_count_7 σ n v1 v2 v3 v4 = some q → aw_J κ 0 0 (rw_w ad ids σ) [(0, .ref (ad 0)), (1, .int v1), (2, .int v2), (3, .int v3), (4, .int v4)] 7 [] := by
  intro n
  induction n with
  | zero => intro v1 v2 v3 v4 hm; cases hm
  | succ n ih =>
    intro v1 v2 v3 v4 hm
    rw [xq_R_count_7] at hm
    refine aw_iload C 4 xd_R_count_7 rfl ?_
    refine aw_bipush (v := (6 : Int32)) C xd_R_count_9 (by decide) ?_
    refine aw_icmp_ge (tgt := 49) C xd_R_count_11 (by decide) (fun c_11 => ?_) (fun c_11 => ?_)
    · rw [if_pos c_11] at hm
      refine aw_iload_n C 1 xd_R_count_49 rfl rfl ?_
      by_cases c_50_0 : v1 = (0 : Int32)
      · rw [if_pos c_50_0] at hm
        refine aw_tabIn (off := 38) (tgt := 88) C xd_R_count_50 (by rw [c_50_0]; decide) (by rw [c_50_0]; decide) (by rw [c_50_0]; rfl) (by decide) ?_
        refine aw_aload_n C 0 xd_R_count_88 rfl rfl ?_
        refine aw_get C 0 (by decide) rfl rfl (fun w h => List.mem_cons_of_mem _ (xi_R w h)) 2 (by decide) rfl (List.mem_cons_of_mem _ fl_R_16) xd_R_count_89 ?_
        refine aw_bipush (v := (12 : Int32)) C xd_R_count_92 (by decide) ?_
        refine aw_iald C 3 (by decide) 0 rfl rfl (aw_in_ok rfl) xd_R_count_94 ?_
        cases hm
        exact aw_iret C xd_R_count_95
      rw [if_neg c_50_0] at hm
      by_cases c_50_1 : v1 = (1 : Int32)
      · rw [if_pos c_50_1] at hm
        refine aw_tabIn (off := 46) (tgt := 96) C xd_R_count_50 (by rw [c_50_1]; decide) (by rw [c_50_1]; decide) (by rw [c_50_1]; rfl) (by decide) ?_
        refine aw_aload_n C 0 xd_R_count_96 rfl rfl ?_
        refine aw_get C 0 (by decide) rfl rfl (fun w h => List.mem_cons_of_mem _ (xi_R w h)) 2 (by decide) rfl (List.mem_cons_of_mem _ fl_R_16) xd_R_count_97 ?_
        refine aw_bipush (v := (12 : Int32)) C xd_R_count_100 (by decide) ?_
        refine aw_iald C 3 (by decide) 0 rfl rfl (aw_in_ok rfl) xd_R_count_102 ?_
        refine aw_if_ne (tgt := 110) C xd_R_count_103 (by decide) (fun c_103 => ?_) (fun c_103 => ?_)
        · rw [if_neg c_103] at hm
          refine aw_aload_n C 0 xd_R_count_110 rfl rfl ?_
          refine aw_get C 0 (by decide) rfl rfl (fun w h => List.mem_cons_of_mem _ (xi_R w h)) 4 (by decide) rfl (List.mem_cons_of_mem _ fl_R_22) xd_R_count_111 ?_
          refine aw_bipush (v := (36 : Int32)) C xd_R_count_114 (by decide) ?_
          refine aw_aload_n C 0 xd_R_count_116 rfl rfl ?_
          refine aw_get C 0 (by decide) rfl rfl (fun w h => List.mem_cons_of_mem _ (xi_R w h)) 2 (by decide) rfl (List.mem_cons_of_mem _ fl_R_16) xd_R_count_117 ?_
          refine aw_bipush (v := (12 : Int32)) C xd_R_count_120 (by decide) ?_
          refine aw_iald C 3 (by decide) 0 rfl rfl (aw_in_ok rfl) xd_R_count_122 ?_
          refine aw_iadd C xd_R_count_123 ?_
          refine aw_iconst (v := (1 : Int32)) C xd_R_count_124 (by decide) ?_
          refine aw_isub C xd_R_count_125 ?_
          obtain ⟨g_126, hm⟩ := aw_grd hm
          refine aw_iald C 5 (by decide) 0 rfl rfl (aw_in_ok g_126) xd_R_count_126 ?_
          cases hm
          exact aw_iret C xd_R_count_127
        · rw [if_pos c_103] at hm
          refine aw_iconst (v := (0 : Int32)) C xd_R_count_106 (by decide) ?_
          refine aw_goto (tgt := 127) C xd_R_count_107 (by decide) ?_
          cases hm
          exact aw_iret C xd_R_count_127
      rw [if_neg c_50_1] at hm
      by_cases c_50_2 : v1 = (2 : Int32)
      · rw [if_pos c_50_2] at hm
        refine aw_tabIn (off := 78) (tgt := 128) C xd_R_count_50 (by rw [c_50_2]; decide) (by rw [c_50_2]; decide) (by rw [c_50_2]; rfl) (by decide) ?_
        refine aw_iload_n C 2 xd_R_count_128 rfl rfl ?_
        cases hm
        exact aw_iret C xd_R_count_129
      rw [if_neg c_50_2] at hm
      by_cases c_50_3 : v1 = (3 : Int32)
      · rw [if_pos c_50_3] at hm
        refine aw_tabIn (off := 80) (tgt := 130) C xd_R_count_50 (by rw [c_50_3]; decide) (by rw [c_50_3]; decide) (by rw [c_50_3]; rfl) (by decide) ?_
        refine aw_iload_n C 3 xd_R_count_130 rfl rfl ?_
        cases hm
        exact aw_iret C xd_R_count_131
      rw [if_neg c_50_3] at hm
      by_cases c_50_4 : v1 = (4 : Int32)
      · rw [if_pos c_50_4] at hm
        refine aw_tabIn (off := 82) (tgt := 132) C xd_R_count_50 (by rw [c_50_4]; decide) (by rw [c_50_4]; decide) (by rw [c_50_4]; rfl) (by decide) ?_
        refine aw_aload_n C 0 xd_R_count_132 rfl rfl ?_
        obtain ⟨q_133, e_133, hm⟩ := aw_bnd hm
        refine aw_callVi (As := []) (rest := []) (b := ad 0) C (xc_R_allCells σ  _  e_133) rfl (gw_sub (gw_V xg_R_allCells ml_R_120 im_R_allCells se_R_allCells wi_R)) na_R_allCells (rm_lt (by decide) (by decide)) ⟨Nat.zero_le _, Nat.zero_le _⟩ 0 at_R rfl rfl (Nat.le_of_ble_eq_true rfl) xd_R_count_133 ?_
        cases hm
        exact aw_iret C xd_R_count_136
      rw [if_neg c_50_4] at hm
      by_cases c_50_5 : v1 = (5 : Int32)
      · rw [if_pos c_50_5] at hm
        refine aw_tabIn (off := 87) (tgt := 137) C xd_R_count_50 (by rw [c_50_5]; decide) (by rw [c_50_5]; decide) (by rw [c_50_5]; rfl) (by decide) ?_
        refine aw_aload_n C 0 xd_R_count_137 rfl rfl ?_
        refine aw_get C 0 (by decide) rfl rfl (fun w h => List.mem_cons_of_mem _ (xi_R w h)) 12 (by decide) rfl (List.mem_cons_of_mem _ fl_R_106) xd_R_count_138 ?_
        cases hm
        exact aw_iret C xd_R_count_141
      rw [if_neg c_50_5] at hm
      have t_50_0 := lv_neT c_50_0 (a := 0) (by decide)
      have t_50_1 := lv_neT c_50_1 (a := 1) (by decide)
      have t_50_2 := lv_neT c_50_2 (a := 2) (by decide)
      have t_50_3 := lv_neT c_50_3 (a := 3) (by decide)
      have t_50_4 := lv_neT c_50_4 (a := 4) (by decide)
      have t_50_5 := lv_neT c_50_5 (a := 5) (by decide)
      refine aw_tabOut (tgt := 142) C xd_R_count_50 (by omega) (by decide) ?_
      refine aw_iconst (v := (-1 : Int32)) C xd_R_count_142 (by decide) ?_
      cases hm
      exact aw_iret C xd_R_count_143
    · rw [if_neg c_11] at hm
      refine aw_aload_n C 0 xd_R_count_14 rfl rfl ?_
      refine aw_get C 0 (by decide) rfl rfl (fun w h => List.mem_cons_of_mem _ (xi_R w h)) 0 (by decide) rfl (List.mem_cons_of_mem _ fl_R_7) xd_R_count_15 ?_
      refine aw_iload C 4 xd_R_count_18 rfl ?_
      obtain ⟨g_20, hm⟩ := aw_grd hm
      refine aw_iald C 1 (by decide) 0 rfl rfl (aw_in_ok g_20) xd_R_count_20 ?_
      refine aw_if_le (tgt := 27) C xd_R_count_21 (by decide) (fun c_21 => ?_) (fun c_21 => ?_)
      · rw [if_pos c_21] at hm
        refine aw_aload_n C 0 xd_R_count_27 rfl rfl ?_
        refine aw_get C 0 (by decide) rfl rfl (fun w h => List.mem_cons_of_mem _ (xi_R w h)) 0 (by decide) rfl (List.mem_cons_of_mem _ fl_R_7) xd_R_count_28 ?_
        refine aw_bipush (v := (6 : Int32)) C xd_R_count_31 (by decide) ?_
        refine aw_iload C 4 xd_R_count_33 rfl ?_
        refine aw_iadd C xd_R_count_35 ?_
        obtain ⟨g_36, hm⟩ := aw_grd hm
        refine aw_iald C 1 (by decide) 0 rfl rfl (aw_in_ok g_36) xd_R_count_36 ?_
        refine aw_if_le (tgt := 43) C xd_R_count_37 (by decide) (fun c_37 => ?_) (fun c_37 => ?_)
        · rw [if_pos c_37] at hm
          refine aw_iinc (j := 4) (v := v4 + (1 : Int32)) (L' := [(4, .int (v4 + (1 : Int32))), (0, .ref (ad 0)), (1, .int v1), (2, .int v2), (3, .int v3)]) C xd_R_count_43 rfl rfl (by decide) rfl ?_
          refine aw_goto (tgt := 7) C xd_R_count_46 (by decide) ?_
          refine aw_loc (L' := [(0, .ref (ad 0)), (1, .int v1), (2, .int v2), (3, .int v3), (4, .int (v4 + (1 : Int32)))]) C [1, 2, 3, 4, 0] rfl ?_
          exact ih v1 v2 v3 (v4 + (1 : Int32))  hm
        · rw [if_neg c_37] at hm
          refine aw_iinc (j := 3) (v := v3 + (1 : Int32)) (L' := [(3, .int (v3 + (1 : Int32))), (0, .ref (ad 0)), (1, .int v1), (2, .int v2), (4, .int v4)]) C xd_R_count_40 rfl rfl (by decide) rfl ?_
          refine aw_iinc (j := 4) (v := v4 + (1 : Int32)) (L' := [(4, .int (v4 + (1 : Int32))), (3, .int (v3 + (1 : Int32))), (0, .ref (ad 0)), (1, .int v1), (2, .int v2)]) C xd_R_count_43 rfl rfl (by decide) rfl ?_
          refine aw_goto (tgt := 7) C xd_R_count_46 (by decide) ?_
          refine aw_loc (L' := [(0, .ref (ad 0)), (1, .int v1), (2, .int v2), (3, .int (v3 + (1 : Int32))), (4, .int (v4 + (1 : Int32)))]) C [2, 3, 4, 1, 0] rfl ?_
          exact ih v1 v2 (v3 + (1 : Int32)) (v4 + (1 : Int32))  hm
      · rw [if_neg c_21] at hm
        refine aw_iinc (j := 2) (v := v2 + (1 : Int32)) (L' := [(2, .int (v2 + (1 : Int32))), (0, .ref (ad 0)), (1, .int v1), (3, .int v3), (4, .int v4)]) C xd_R_count_24 rfl rfl (by decide) rfl ?_
        refine aw_aload_n C 1 xd_R_count_27 rfl rfl ?_
        refine aw_get C 0 (by decide) rfl rfl (fun w h => List.mem_cons_of_mem _ (xi_R w h)) 0 (by decide) rfl (List.mem_cons_of_mem _ fl_R_7) xd_R_count_28 ?_
        refine aw_bipush (v := (6 : Int32)) C xd_R_count_31 (by decide) ?_
        refine aw_iload C 4 xd_R_count_33 rfl ?_
        refine aw_iadd C xd_R_count_35 ?_
        obtain ⟨g_36, hm⟩ := aw_grd hm
        refine aw_iald C 1 (by decide) 0 rfl rfl (aw_in_ok g_36) xd_R_count_36 ?_
        refine aw_if_le (tgt := 43) C xd_R_count_37 (by decide) (fun c_37 => ?_) (fun c_37 => ?_)
        · rw [if_pos c_37] at hm
          refine aw_iinc (j := 4) (v := v4 + (1 : Int32)) (L' := [(4, .int (v4 + (1 : Int32))), (2, .int (v2 + (1 : Int32))), (0, .ref (ad 0)), (1, .int v1), (3, .int v3)]) C xd_R_count_43 rfl rfl (by decide) rfl ?_
          refine aw_goto (tgt := 7) C xd_R_count_46 (by decide) ?_
          refine aw_loc (L' := [(0, .ref (ad 0)), (1, .int v1), (2, .int (v2 + (1 : Int32))), (3, .int v3), (4, .int (v4 + (1 : Int32)))]) C [2, 3, 1, 4, 0] rfl ?_
          exact ih v1 (v2 + (1 : Int32)) v3 (v4 + (1 : Int32))  hm
        · rw [if_neg c_37] at hm
          refine aw_iinc (j := 3) (v := v3 + (1 : Int32)) (L' := [(3, .int (v3 + (1 : Int32))), (2, .int (v2 + (1 : Int32))), (0, .ref (ad 0)), (1, .int v1), (4, .int v4)]) C xd_R_count_40 rfl rfl (by decide) rfl ?_
          refine aw_iinc (j := 4) (v := v4 + (1 : Int32)) (L' := [(4, .int (v4 + (1 : Int32))), (3, .int (v3 + (1 : Int32))), (2, .int (v2 + (1 : Int32))), (0, .ref (ad 0)), (1, .int v1)]) C xd_R_count_43 rfl rfl (by decide) rfl ?_
          refine aw_goto (tgt := 7) C xd_R_count_46 (by decide) ?_
          refine aw_loc (L' := [(0, .ref (ad 0)), (1, .int v1), (2, .int (v2 + (1 : Int32))), (3, .int (v3 + (1 : Int32))), (4, .int (v4 + (1 : Int32)))]) C [3, 4, 2, 1, 0] rfl ?_
          exact ih v1 (v2 + (1 : Int32)) (v3 + (1 : Int32)) (v4 + (1 : Int32))  hm
set_option maxHeartbeats 4000000 in
set_option maxRecDepth 100000 in
theorem xc_R_count (σ : aw_m) (a1 : Int32) (q : Int32)  (hm : xm_R_count σ a1 = some q) : aw_M l D (ty_z ids) (zs_T ps) xy_R_count (xw_R_count :: gw_l) (rm_D (2)) [.ref (ad 0), .int a1] (rw_w ad ids σ) (some (.int q)) (rw_w ad ids σ) := by
  refine aw_intro (cc := xb_R_count) (n := 5) (ret := (some .int)) "ModuleShelfModel" rfl (by decide) rfl (Nat.le_of_ble_eq_true rfl) ?_
  intro κ C
  unfold xm_R_count at hm
  refine aw_iconst (v := (0 : Int32)) C xd_R_count_0 (by decide) ?_
  refine aw_istore_n (L' := [(2, .int (0 : Int32)), (0, .ref (ad 0)), (1, .int a1)]) C xd_R_count_1 rfl (by decide) rfl ?_
  refine aw_iconst (v := (0 : Int32)) C xd_R_count_2 (by decide) ?_
  refine aw_istore_n (L' := [(3, .int (0 : Int32)), (2, .int (0 : Int32)), (0, .ref (ad 0)), (1, .int a1)]) C xd_R_count_3 rfl (by decide) rfl ?_
  refine aw_iconst (v := (0 : Int32)) C xd_R_count_4 (by decide) ?_
  refine aw_istore (L' := [(4, .int (0 : Int32)), (3, .int (0 : Int32)), (2, .int (0 : Int32)), (0, .ref (ad 0)), (1, .int a1)]) C xd_R_count_5 (by decide) rfl ?_
  refine aw_loc (L' := [(0, .ref (ad 0)), (1, .int a1), (2, .int (0 : Int32)), (3, .int (0 : Int32)), (4, .int (0 : Int32))]) C [3, 4, 2, 1, 0] rfl ?_
  exact xl_R_count_7 σ _ C 64 a1 (0 : Int32) (0 : Int32) (0 : Int32)  hm
end
