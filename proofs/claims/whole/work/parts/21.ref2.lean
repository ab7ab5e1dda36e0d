theorem xd_R_copy_0 : decode xb_R_copy 0 = .ok (.aload_n 0, 1) := by decide +kernel
theorem xd_R_copy_1 : decode xb_R_copy 1 = .ok (.getfield 13, 3) := by decide +kernel
theorem xd_R_copy_4 : decode xb_R_copy 4 = .ok (.iload_n 2, 1) := by decide +kernel
theorem xd_R_copy_5 : decode xb_R_copy 5 = .ok (.aload_n 0, 1) := by decide +kernel
theorem xd_R_copy_6 : decode xb_R_copy 6 = .ok (.getfield 13, 3) := by decide +kernel
theorem xd_R_copy_9 : decode xb_R_copy 9 = .ok (.iload_n 1, 1) := by decide +kernel
theorem xd_R_copy_10 : decode xb_R_copy 10 = .ok (.iaload, 1) := by decide +kernel
theorem xd_R_copy_11 : decode xb_R_copy 11 = .ok (.iastore, 1) := by decide +kernel
theorem xd_R_copy_12 : decode xb_R_copy 12 = .ok (.aload_n 0, 1) := by decide +kernel
theorem xd_R_copy_13 : decode xb_R_copy 13 = .ok (.getfield 16, 3) := by decide +kernel
theorem xd_R_copy_16 : decode xb_R_copy 16 = .ok (.iload_n 2, 1) := by decide +kernel
theorem xd_R_copy_17 : decode xb_R_copy 17 = .ok (.aload_n 0, 1) := by decide +kernel
theorem xd_R_copy_18 : decode xb_R_copy 18 = .ok (.getfield 16, 3) := by decide +kernel
theorem xd_R_copy_21 : decode xb_R_copy 21 = .ok (.iload_n 1, 1) := by decide +kernel
theorem xd_R_copy_22 : decode xb_R_copy 22 = .ok (.iaload, 1) := by decide +kernel
theorem xd_R_copy_23 : decode xb_R_copy 23 = .ok (.iastore, 1) := by decide +kernel
theorem xd_R_copy_24 : decode xb_R_copy 24 = .ok (.aload_n 0, 1) := by decide +kernel
theorem xd_R_copy_25 : decode xb_R_copy 25 = .ok (.getfield 34, 3) := by decide +kernel
theorem xd_R_copy_28 : decode xb_R_copy 28 = .ok (.iload_n 2, 1) := by decide +kernel
theorem xd_R_copy_29 : decode xb_R_copy 29 = .ok (.aload_n 0, 1) := by decide +kernel
theorem xd_R_copy_30 : decode xb_R_copy 30 = .ok (.getfield 34, 3) := by decide +kernel
theorem xd_R_copy_33 : decode xb_R_copy 33 = .ok (.iload_n 1, 1) := by decide +kernel
theorem xd_R_copy_34 : decode xb_R_copy 34 = .ok (.iaload, 1) := by decide +kernel
theorem xd_R_copy_35 : decode xb_R_copy 35 = .ok (.iastore, 1) := by decide +kernel
theorem xd_R_copy_36 : decode xb_R_copy 36 = .ok (.iconst 0, 1) := by decide +kernel
theorem xd_R_copy_37 : decode xb_R_copy 37 = .ok (.istore_n 3, 1) := by decide +kernel
theorem xd_R_copy_38 : decode xb_R_copy 38 = .ok (.iload_n 3, 1) := by decide +kernel
theorem xd_R_copy_39 : decode xb_R_copy 39 = .ok (.iconst 3, 1) := by decide +kernel
theorem xd_R_copy_40 : decode xb_R_copy 40 = .ok (.if_icmp .ge 49, 3) := by decide +kernel
theorem xd_R_copy_43 : decode xb_R_copy 43 = .ok (.aload_n 0, 1) := by decide +kernel
theorem xd_R_copy_44 : decode xb_R_copy 44 = .ok (.getfield 19, 3) := by decide +kernel
theorem xd_R_copy_47 : decode xb_R_copy 47 = .ok (.iconst 3, 1) := by decide +kernel
theorem xd_R_copy_48 : decode xb_R_copy 48 = .ok (.iload_n 2, 1) := by decide +kernel
theorem xd_R_copy_49 : decode xb_R_copy 49 = .ok (.imul, 1) := by decide +kernel
theorem xd_R_copy_50 : decode xb_R_copy 50 = .ok (.iload_n 3, 1) := by decide +kernel
theorem xd_R_copy_51 : decode xb_R_copy 51 = .ok (.iadd, 1) := by decide +kernel
theorem xd_R_copy_52 : decode xb_R_copy 52 = .ok (.aload_n 0, 1) := by decide +kernel
theorem xd_R_copy_53 : decode xb_R_copy 53 = .ok (.getfield 19, 3) := by decide +kernel
theorem xd_R_copy_56 : decode xb_R_copy 56 = .ok (.iconst 3, 1) := by decide +kernel
theorem xd_R_copy_57 : decode xb_R_copy 57 = .ok (.iload_n 1, 1) := by decide +kernel
theorem xd_R_copy_58 : decode xb_R_copy 58 = .ok (.imul, 1) := by decide +kernel
theorem xd_R_copy_59 : decode xb_R_copy 59 = .ok (.iload_n 3, 1) := by decide +kernel
theorem xd_R_copy_60 : decode xb_R_copy 60 = .ok (.iadd, 1) := by decide +kernel
theorem xd_R_copy_61 : decode xb_R_copy 61 = .ok (.iaload, 1) := by decide +kernel
theorem xd_R_copy_62 : decode xb_R_copy 62 = .ok (.iastore, 1) := by decide +kernel
theorem xd_R_copy_63 : decode xb_R_copy 63 = .ok (.aload_n 0, 1) := by decide +kernel
theorem xd_R_copy_64 : decode xb_R_copy 64 = .ok (.getfield 22, 3) := by decide +kernel
theorem xd_R_copy_67 : decode xb_R_copy 67 = .ok (.iconst 3, 1) := by decide +kernel
theorem xd_R_copy_68 : decode xb_R_copy 68 = .ok (.iload_n 2, 1) := by decide +kernel
theorem xd_R_copy_69 : decode xb_R_copy 69 = .ok (.imul, 1) := by decide +kernel
theorem xd_R_copy_70 : decode xb_R_copy 70 = .ok (.iload_n 3, 1) := by decide +kernel
theorem xd_R_copy_71 : decode xb_R_copy 71 = .ok (.iadd, 1) := by decide +kernel
theorem xd_R_copy_72 : decode xb_R_copy 72 = .ok (.aload_n 0, 1) := by decide +kernel
theorem xd_R_copy_73 : decode xb_R_copy 73 = .ok (.getfield 22, 3) := by decide +kernel
theorem xd_R_copy_76 : decode xb_R_copy 76 = .ok (.iconst 3, 1) := by decide +kernel
theorem xd_R_copy_77 : decode xb_R_copy 77 = .ok (.iload_n 1, 1) := by decide +kernel
theorem xd_R_copy_78 : decode xb_R_copy 78 = .ok (.imul, 1) := by decide +kernel
theorem xd_R_copy_79 : decode xb_R_copy 79 = .ok (.iload_n 3, 1) := by decide +kernel
theorem xd_R_copy_80 : decode xb_R_copy 80 = .ok (.iadd, 1) := by decide +kernel
theorem xd_R_copy_81 : decode xb_R_copy 81 = .ok (.iaload, 1) := by decide +kernel
theorem xd_R_copy_82 : decode xb_R_copy 82 = .ok (.iastore, 1) := by decide +kernel
theorem xd_R_copy_83 : decode xb_R_copy 83 = .ok (.iinc 3 1, 3) := by decide +kernel
theorem xd_R_copy_86 : decode xb_R_copy 86 = .ok (.goto (-48), 3) := by decide +kernel
theorem xd_R_copy_89 : decode xb_R_copy 89 = .ok (.iconst 0, 1) := by decide +kernel
theorem xd_R_copy_90 : decode xb_R_copy 90 = .ok (.istore_n 3, 1) := by decide +kernel
theorem xd_R_copy_91 : decode xb_R_copy 91 = .ok (.iload_n 3, 1) := by decide +kernel
theorem xd_R_copy_92 : decode xb_R_copy 92 = .ok (.bipush 42, 2) := by decide +kernel
theorem xd_R_copy_94 : decode xb_R_copy 94 = .ok (.if_icmp .ge 75, 3) := by decide +kernel
theorem xd_R_copy_97 : decode xb_R_copy 97 = .ok (.aload_n 0, 1) := by decide +kernel
theorem xd_R_copy_98 : decode xb_R_copy 98 = .ok (.getfield 25, 3) := by decide +kernel
theorem xd_R_copy_101 : decode xb_R_copy 101 = .ok (.bipush 42, 2) := by decide +kernel
theorem xd_R_copy_103 : decode xb_R_copy 103 = .ok (.iload_n 2, 1) := by decide +kernel
theorem xd_R_copy_104 : decode xb_R_copy 104 = .ok (.imul, 1) := by decide +kernel
theorem xd_R_copy_105 : decode xb_R_copy 105 = .ok (.iload_n 3, 1) := by decide +kernel
theorem xd_R_copy_106 : decode xb_R_copy 106 = .ok (.iadd, 1) := by decide +kernel
theorem xd_R_copy_107 : decode xb_R_copy 107 = .ok (.aload_n 0, 1) := by decide +kernel
theorem xd_R_copy_108 : decode xb_R_copy 108 = .ok (.getfield 25, 3) := by decide +kernel
theorem xd_R_copy_111 : decode xb_R_copy 111 = .ok (.bipush 42, 2) := by decide +kernel
theorem xd_R_copy_113 : decode xb_R_copy 113 = .ok (.iload_n 1, 1) := by decide +kernel
theorem xd_R_copy_114 : decode xb_R_copy 114 = .ok (.imul, 1) := by decide +kernel
theorem xd_R_copy_115 : decode xb_R_copy 115 = .ok (.iload_n 3, 1) := by decide +kernel
theorem xd_R_copy_116 : decode xb_R_copy 116 = .ok (.iadd, 1) := by decide +kernel
theorem xd_R_copy_117 : decode xb_R_copy 117 = .ok (.iaload, 1) := by decide +kernel
theorem xd_R_copy_118 : decode xb_R_copy 118 = .ok (.iastore, 1) := by decide +kernel
theorem xd_R_copy_119 : decode xb_R_copy 119 = .ok (.aload_n 0, 1) := by decide +kernel
theorem xd_R_copy_120 : decode xb_R_copy 120 = .ok (.getfield 28, 3) := by decide +kernel
theorem xd_R_copy_123 : decode xb_R_copy 123 = .ok (.bipush 42, 2) := by decide +kernel
theorem xd_R_copy_125 : decode xb_R_copy 125 = .ok (.iload_n 2, 1) := by decide +kernel
theorem xd_R_copy_126 : decode xb_R_copy 126 = .ok (.imul, 1) := by decide +kernel
theorem xd_R_copy_127 : decode xb_R_copy 127 = .ok (.iload_n 3, 1) := by decide +kernel
theorem xd_R_copy_128 : decode xb_R_copy 128 = .ok (.iadd, 1) := by decide +kernel
theorem xd_R_copy_129 : decode xb_R_copy 129 = .ok (.aload_n 0, 1) := by decide +kernel
theorem xd_R_copy_130 : decode xb_R_copy 130 = .ok (.getfield 28, 3) := by decide +kernel
theorem xd_R_copy_133 : decode xb_R_copy 133 = .ok (.bipush 42, 2) := by decide +kernel
theorem xd_R_copy_135 : decode xb_R_copy 135 = .ok (.iload_n 1, 1) := by decide +kernel
theorem xd_R_copy_136 : decode xb_R_copy 136 = .ok (.imul, 1) := by decide +kernel
theorem xd_R_copy_137 : decode xb_R_copy 137 = .ok (.iload_n 3, 1) := by decide +kernel
theorem xd_R_copy_138 : decode xb_R_copy 138 = .ok (.iadd, 1) := by decide +kernel
theorem xd_R_copy_139 : decode xb_R_copy 139 = .ok (.iaload, 1) := by decide +kernel
theorem xd_R_copy_140 : decode xb_R_copy 140 = .ok (.iastore, 1) := by decide +kernel
theorem xd_R_copy_141 : decode xb_R_copy 141 = .ok (.aload_n 0, 1) := by decide +kernel
theorem xd_R_copy_142 : decode xb_R_copy 142 = .ok (.getfield 31, 3) := by decide +kernel
theorem xd_R_copy_145 : decode xb_R_copy 145 = .ok (.bipush 42, 2) := by decide +kernel
theorem xd_R_copy_147 : decode xb_R_copy 147 = .ok (.iload_n 2, 1) := by decide +kernel
theorem xd_R_copy_148 : decode xb_R_copy 148 = .ok (.imul, 1) := by decide +kernel
theorem xd_R_copy_149 : decode xb_R_copy 149 = .ok (.iload_n 3, 1) := by decide +kernel
theorem xd_R_copy_150 : decode xb_R_copy 150 = .ok (.iadd, 1) := by decide +kernel
theorem xd_R_copy_151 : decode xb_R_copy 151 = .ok (.aload_n 0, 1) := by decide +kernel
theorem xd_R_copy_152 : decode xb_R_copy 152 = .ok (.getfield 31, 3) := by decide +kernel
theorem xd_R_copy_155 : decode xb_R_copy 155 = .ok (.bipush 42, 2) := by decide +kernel
theorem xd_R_copy_157 : decode xb_R_copy 157 = .ok (.iload_n 1, 1) := by decide +kernel
theorem xd_R_copy_158 : decode xb_R_copy 158 = .ok (.imul, 1) := by decide +kernel
theorem xd_R_copy_159 : decode xb_R_copy 159 = .ok (.iload_n 3, 1) := by decide +kernel
theorem xd_R_copy_160 : decode xb_R_copy 160 = .ok (.iadd, 1) := by decide +kernel
theorem xd_R_copy_161 : decode xb_R_copy 161 = .ok (.iaload, 1) := by decide +kernel
theorem xd_R_copy_162 : decode xb_R_copy 162 = .ok (.iastore, 1) := by decide +kernel
theorem xd_R_copy_163 : decode xb_R_copy 163 = .ok (.iinc 3 1, 3) := by decide +kernel
theorem xd_R_copy_166 : decode xb_R_copy 166 = .ok (.goto (-75), 3) := by decide +kernel
theorem xd_R_copy_169 : decode xb_R_copy 169 = .ok (.iconst 0, 1) := by decide +kernel
theorem xd_R_copy_170 : decode xb_R_copy 170 = .ok (.istore_n 3, 1) := by decide +kernel
theorem xd_R_copy_171 : decode xb_R_copy 171 = .ok (.iload_n 3, 1) := by decide +kernel
theorem xd_R_copy_172 : decode xb_R_copy 172 = .ok (.iconst 5, 1) := by decide +kernel
theorem xd_R_copy_173 : decode xb_R_copy 173 = .ok (.if_icmp .ge 49, 3) := by decide +kernel
theorem xd_R_copy_176 : decode xb_R_copy 176 = .ok (.aload_n 0, 1) := by decide +kernel
theorem xd_R_copy_177 : decode xb_R_copy 177 = .ok (.getfield 37, 3) := by decide +kernel
theorem xd_R_copy_180 : decode xb_R_copy 180 = .ok (.iconst 5, 1) := by decide +kernel
theorem xd_R_copy_181 : decode xb_R_copy 181 = .ok (.iload_n 2, 1) := by decide +kernel
theorem xd_R_copy_182 : decode xb_R_copy 182 = .ok (.imul, 1) := by decide +kernel
theorem xd_R_copy_183 : decode xb_R_copy 183 = .ok (.iload_n 3, 1) := by decide +kernel
theorem xd_R_copy_184 : decode xb_R_copy 184 = .ok (.iadd, 1) := by decide +kernel
theorem xd_R_copy_185 : decode xb_R_copy 185 = .ok (.aload_n 0, 1) := by decide +kernel
theorem xd_R_copy_186 : decode xb_R_copy 186 = .ok (.getfield 37, 3) := by decide +kernel
theorem xd_R_copy_189 : decode xb_R_copy 189 = .ok (.iconst 5, 1) := by decide +kernel
theorem xd_R_copy_190 : decode xb_R_copy 190 = .ok (.iload_n 1, 1) := by decide +kernel
theorem xd_R_copy_191 : decode xb_R_copy 191 = .ok (.imul, 1) := by decide +kernel
theorem xd_R_copy_192 : decode xb_R_copy 192 = .ok (.iload_n 3, 1) := by decide +kernel
theorem xd_R_copy_193 : decode xb_R_copy 193 = .ok (.iadd, 1) := by decide +kernel
theorem xd_R_copy_194 : decode xb_R_copy 194 = .ok (.iaload, 1) := by decide +kernel
theorem xd_R_copy_195 : decode xb_R_copy 195 = .ok (.iastore, 1) := by decide +kernel
theorem xd_R_copy_196 : decode xb_R_copy 196 = .ok (.aload_n 0, 1) := by decide +kernel
theorem xd_R_copy_197 : decode xb_R_copy 197 = .ok (.getfield 40, 3) := by decide +kernel
theorem xd_R_copy_200 : decode xb_R_copy 200 = .ok (.iconst 5, 1) := by decide +kernel
theorem xd_R_copy_201 : decode xb_R_copy 201 = .ok (.iload_n 2, 1) := by decide +kernel
theorem xd_R_copy_202 : decode xb_R_copy 202 = .ok (.imul, 1) := by decide +kernel
theorem xd_R_copy_203 : decode xb_R_copy 203 = .ok (.iload_n 3, 1) := by decide +kernel
theorem xd_R_copy_204 : decode xb_R_copy 204 = .ok (.iadd, 1) := by decide +kernel
theorem xd_R_copy_205 : decode xb_R_copy 205 = .ok (.aload_n 0, 1) := by decide +kernel
theorem xd_R_copy_206 : decode xb_R_copy 206 = .ok (.getfield 40, 3) := by decide +kernel
theorem xd_R_copy_209 : decode xb_R_copy 209 = .ok (.iconst 5, 1) := by decide +kernel
theorem xd_R_copy_210 : decode xb_R_copy 210 = .ok (.iload_n 1, 1) := by decide +kernel
theorem xd_R_copy_211 : decode xb_R_copy 211 = .ok (.imul, 1) := by decide +kernel
theorem xd_R_copy_212 : decode xb_R_copy 212 = .ok (.iload_n 3, 1) := by decide +kernel
theorem xd_R_copy_213 : decode xb_R_copy 213 = .ok (.iadd, 1) := by decide +kernel
theorem xd_R_copy_214 : decode xb_R_copy 214 = .ok (.iaload, 1) := by decide +kernel
theorem xd_R_copy_215 : decode xb_R_copy 215 = .ok (.iastore, 1) := by decide +kernel
theorem xd_R_copy_216 : decode xb_R_copy 216 = .ok (.iinc 3 1, 3) := by decide +kernel
theorem xd_R_copy_219 : decode xb_R_copy 219 = .ok (.goto (-48), 3) := by decide +kernel
theorem xd_R_copy_222 : decode xb_R_copy 222 = .ok (.return_, 1) := by decide +kernel
theorem xd_R_findImports_0 : decode xb_R_findImports 0 = .ok (.iconst 0, 1) := by decide +kernel
theorem xd_R_findImports_1 : decode xb_R_findImports 1 = .ok (.istore_n 2, 1) := by decide +kernel
theorem xd_R_findImports_2 : decode xb_R_findImports 2 = .ok (.bipush 36, 2) := by decide +kernel
theorem xd_R_findImports_4 : decode xb_R_findImports 4 = .ok (.istore_n 3, 1) := by decide +kernel
theorem xd_R_findImports_5 : decode xb_R_findImports 5 = .ok (.iload_n 3, 1) := by decide +kernel
theorem xd_R_findImports_6 : decode xb_R_findImports 6 = .ok (.bipush 36, 2) := by decide +kernel
theorem xd_R_findImports_8 : decode xb_R_findImports 8 = .ok (.aload_n 0, 1) := by decide +kernel
theorem xd_R_findImports_9 : decode xb_R_findImports 9 = .ok (.getfield 16, 3) := by decide +kernel
theorem xd_R_findImports_12 : decode xb_R_findImports 12 = .ok (.bipush 12, 2) := by decide +kernel
theorem xd_R_findImports_14 : decode xb_R_findImports 14 = .ok (.iaload, 1) := by decide +kernel
theorem xd_R_findImports_15 : decode xb_R_findImports 15 = .ok (.iadd, 1) := by decide +kernel
theorem xd_R_findImports_16 : decode xb_R_findImports 16 = .ok (.if_icmp .ge 164, 3) := by decide +kernel
theorem xd_R_findImports_19 : decode xb_R_findImports 19 = .ok (.bipush 14, 2) := by decide +kernel
theorem xd_R_findImports_21 : decode xb_R_findImports 21 = .ok (.iload_n 3, 1) := by decide +kernel
theorem xd_R_findImports_22 : decode xb_R_findImports 22 = .ok (.imul, 1) := by decide +kernel
theorem xd_R_findImports_23 : decode xb_R_findImports 23 = .ok (.istore 4, 2) := by decide +kernel
theorem xd_R_findImports_25 : decode xb_R_findImports 25 = .ok (.iload 4, 2) := by decide +kernel
theorem xd_R_findImports_27 : decode xb_R_findImports 27 = .ok (.bipush 14, 2) := by decide +kernel
theorem xd_R_findImports_29 : decode xb_R_findImports 29 = .ok (.iload_n 3, 1) := by decide +kernel
theorem xd_R_findImports_30 : decode xb_R_findImports 30 = .ok (.imul, 1) := by decide +kernel
theorem xd_R_findImports_31 : decode xb_R_findImports 31 = .ok (.aload_n 0, 1) := by decide +kernel
theorem xd_R_findImports_32 : decode xb_R_findImports 32 = .ok (.getfield 22, 3) := by decide +kernel
theorem xd_R_findImports_35 : decode xb_R_findImports 35 = .ok (.iload_n 3, 1) := by decide +kernel
theorem xd_R_findImports_36 : decode xb_R_findImports 36 = .ok (.iaload, 1) := by decide +kernel
theorem xd_R_findImports_37 : decode xb_R_findImports 37 = .ok (.iadd, 1) := by decide +kernel
theorem xd_R_findImports_38 : decode xb_R_findImports 38 = .ok (.if_icmp .ge 136, 3) := by decide +kernel
theorem xd_R_findImports_41 : decode xb_R_findImports 41 = .ok (.aload_n 0, 1) := by decide +kernel
theorem xd_R_findImports_42 : decode xb_R_findImports 42 = .ok (.getfield 25, 3) := by decide +kernel
theorem xd_R_findImports_45 : decode xb_R_findImports 45 = .ok (.iload 4, 2) := by decide +kernel
theorem xd_R_findImports_47 : decode xb_R_findImports 47 = .ok (.iaload, 1) := by decide +kernel
theorem xd_R_findImports_48 : decode xb_R_findImports 48 = .ok (.iconst 2, 1) := by decide +kernel
theorem xd_R_findImports_49 : decode xb_R_findImports 49 = .ok (.if_icmp .eq 15, 3) := by decide +kernel
theorem xd_R_findImports_52 : decode xb_R_findImports 52 = .ok (.aload_n 0, 1) := by decide +kernel
theorem xd_R_findImports_53 : decode xb_R_findImports 53 = .ok (.getfield 25, 3) := by decide +kernel
theorem xd_R_findImports_56 : decode xb_R_findImports 56 = .ok (.iload 4, 2) := by decide +kernel
theorem xd_R_findImports_58 : decode xb_R_findImports 58 = .ok (.iaload, 1) := by decide +kernel
theorem xd_R_findImports_59 : decode xb_R_findImports 59 = .ok (.bipush 11, 2) := by decide +kernel
theorem xd_R_findImports_61 : decode xb_R_findImports 61 = .ok (.if_icmp .ne 18, 3) := by decide +kernel
theorem xd_R_findImports_64 : decode xb_R_findImports 64 = .ok (.aload_n 0, 1) := by decide +kernel
theorem xd_R_findImports_65 : decode xb_R_findImports 65 = .ok (.getfield 28, 3) := by decide +kernel
theorem xd_R_findImports_68 : decode xb_R_findImports 68 = .ok (.iload 4, 2) := by decide +kernel
theorem xd_R_findImports_70 : decode xb_R_findImports 70 = .ok (.iaload, 1) := by decide +kernel
theorem xd_R_findImports_71 : decode xb_R_findImports 71 = .ok (.iload_n 1, 1) := by decide +kernel
theorem xd_R_findImports_72 : decode xb_R_findImports 72 = .ok (.if_icmp .eq 7, 3) := by decide +kernel
theorem xd_R_findImports_75 : decode xb_R_findImports 75 = .ok (.iconst 1, 1) := by decide +kernel
theorem xd_R_findImports_76 : decode xb_R_findImports 76 = .ok (.goto 4, 3) := by decide +kernel
theorem xd_R_findImports_79 : decode xb_R_findImports 79 = .ok (.iconst 0, 1) := by decide +kernel
theorem xd_R_findImports_80 : decode xb_R_findImports 80 = .ok (.istore 5, 2) := by decide +kernel
theorem xd_R_findImports_82 : decode xb_R_findImports 82 = .ok (.iconst 0, 1) := by decide +kernel
theorem xd_R_findImports_83 : decode xb_R_findImports 83 = .ok (.istore 6, 2) := by decide +kernel
theorem xd_R_findImports_85 : decode xb_R_findImports 85 = .ok (.iload 6, 2) := by decide +kernel
theorem xd_R_findImports_87 : decode xb_R_findImports 87 = .ok (.iload_n 2, 1) := by decide +kernel
theorem xd_R_findImports_88 : decode xb_R_findImports 88 = .ok (.if_icmp .ge 32, 3) := by decide +kernel
theorem xd_R_findImports_91 : decode xb_R_findImports 91 = .ok (.aload_n 0, 1) := by decide +kernel
theorem xd_R_findImports_92 : decode xb_R_findImports 92 = .ok (.getfield 37, 3) := by decide +kernel
theorem xd_R_findImports_95 : decode xb_R_findImports 95 = .ok (.bipush 60, 2) := by decide +kernel
theorem xd_R_findImports_97 : decode xb_R_findImports 97 = .ok (.iload 6, 2) := by decide +kernel
theorem xd_R_findImports_99 : decode xb_R_findImports 99 = .ok (.iadd, 1) := by decide +kernel
theorem xd_R_findImports_100 : decode xb_R_findImports 100 = .ok (.iaload, 1) := by decide +kernel
theorem xd_R_findImports_101 : decode xb_R_findImports 101 = .ok (.aload_n 0, 1) := by decide +kernel
theorem xd_R_findImports_102 : decode xb_R_findImports 102 = .ok (.getfield 28, 3) := by decide +kernel
theorem xd_R_findImports_105 : decode xb_R_findImports 105 = .ok (.iload 4, 2) := by decide +kernel
theorem xd_R_findImports_107 : decode xb_R_findImports 107 = .ok (.iaload, 1) := by decide +kernel
theorem xd_R_findImports_108 : decode xb_R_findImports 108 = .ok (.if_icmp .ne 6, 3) := by decide +kernel
theorem xd_R_findImports_111 : decode xb_R_findImports 111 = .ok (.iconst 0, 1) := by decide +kernel
theorem xd_R_findImports_112 : decode xb_R_findImports 112 = .ok (.istore 5, 2) := by decide +kernel
theorem xd_R_findImports_114 : decode xb_R_findImports 114 = .ok (.iinc 6 1, 3) := by decide +kernel
theorem xd_R_findImports_117 : decode xb_R_findImports 117 = .ok (.goto (-32), 3) := by decide +kernel
theorem xd_R_findImports_120 : decode xb_R_findImports 120 = .ok (.iload 5, 2) := by decide +kernel
theorem xd_R_findImports_122 : decode xb_R_findImports 122 = .ok (.ifCond .ne 6, 3) := by decide +kernel
theorem xd_R_findImports_125 : decode xb_R_findImports 125 = .ok (.goto 43, 3) := by decide +kernel
theorem xd_R_findImports_128 : decode xb_R_findImports 128 = .ok (.aload_n 0, 1) := by decide +kernel
theorem xd_R_findImports_129 : decode xb_R_findImports 129 = .ok (.getfield 37, 3) := by decide +kernel
theorem xd_R_findImports_132 : decode xb_R_findImports 132 = .ok (.bipush 60, 2) := by decide +kernel
theorem xd_R_findImports_134 : decode xb_R_findImports 134 = .ok (.iload_n 2, 1) := by decide +kernel
theorem xd_R_findImports_135 : decode xb_R_findImports 135 = .ok (.iadd, 1) := by decide +kernel
theorem xd_R_findImports_136 : decode xb_R_findImports 136 = .ok (.aload_n 0, 1) := by decide +kernel
theorem xd_R_findImports_137 : decode xb_R_findImports 137 = .ok (.getfield 28, 3) := by decide +kernel
theorem xd_R_findImports_140 : decode xb_R_findImports 140 = .ok (.iload 4, 2) := by decide +kernel
theorem xd_R_findImports_142 : decode xb_R_findImports 142 = .ok (.iaload, 1) := by decide +kernel
theorem xd_R_findImports_143 : decode xb_R_findImports 143 = .ok (.iastore, 1) := by decide +kernel
theorem xd_R_findImports_144 : decode xb_R_findImports 144 = .ok (.aload_n 0, 1) := by decide +kernel
theorem xd_R_findImports_145 : decode xb_R_findImports 145 = .ok (.getfield 40, 3) := by decide +kernel
theorem xd_R_findImports_148 : decode xb_R_findImports 148 = .ok (.bipush 60, 2) := by decide +kernel
theorem xd_R_findImports_150 : decode xb_R_findImports 150 = .ok (.iload_n 2, 1) := by decide +kernel
theorem xd_R_findImports_151 : decode xb_R_findImports 151 = .ok (.iadd, 1) := by decide +kernel
theorem xd_R_findImports_152 : decode xb_R_findImports 152 = .ok (.aload_n 0, 1) := by decide +kernel
theorem xd_R_findImports_153 : decode xb_R_findImports 153 = .ok (.getfield 7, 3) := by decide +kernel
theorem xd_R_findImports_156 : decode xb_R_findImports 156 = .ok (.aload_n 0, 1) := by decide +kernel
theorem xd_R_findImports_157 : decode xb_R_findImports 157 = .ok (.getfield 28, 3) := by decide +kernel
theorem xd_R_findImports_160 : decode xb_R_findImports 160 = .ok (.iload 4, 2) := by decide +kernel
theorem xd_R_findImports_162 : decode xb_R_findImports 162 = .ok (.iaload, 1) := by decide +kernel
theorem xd_R_findImports_163 : decode xb_R_findImports 163 = .ok (.iaload, 1) := by decide +kernel
theorem xd_R_findImports_164 : decode xb_R_findImports 164 = .ok (.iastore, 1) := by decide +kernel
theorem xd_R_findImports_165 : decode xb_R_findImports 165 = .ok (.iinc 2 1, 3) := by decide +kernel
theorem xd_R_findImports_168 : decode xb_R_findImports 168 = .ok (.iinc 4 1, 3) := by decide +kernel
theorem xd_R_findImports_171 : decode xb_R_findImports 171 = .ok (.goto (-146), 3) := by decide +kernel
theorem xd_R_findImports_174 : decode xb_R_findImports 174 = .ok (.iinc 3 1, 3) := by decide +kernel
theorem xd_R_findImports_177 : decode xb_R_findImports 177 = .ok (.goto (-172), 3) := by decide +kernel
theorem xd_R_findImports_180 : decode xb_R_findImports 180 = .ok (.aload_n 0, 1) := by decide +kernel
theorem xd_R_findImports_181 : decode xb_R_findImports 181 = .ok (.getfield 34, 3) := by decide +kernel
theorem xd_R_findImports_184 : decode xb_R_findImports 184 = .ok (.bipush 12, 2) := by decide +kernel
theorem xd_R_findImports_186 : decode xb_R_findImports 186 = .ok (.iload_n 2, 1) := by decide +kernel
theorem xd_R_findImports_187 : decode xb_R_findImports 187 = .ok (.iastore, 1) := by decide +kernel
theorem xd_R_findImports_188 : decode xb_R_findImports 188 = .ok (.return_, 1) := by decide +kernel
theorem xd_R_compile_0 : decode xb_R_compile 0 = .ok (.aload_n 0, 1) := by decide +kernel
theorem xd_R_compile_1 : decode xb_R_compile 1 = .ok (.iconst (-1), 1) := by decide +kernel
theorem xd_R_compile_2 : decode xb_R_compile 2 = .ok (.putfield 46, 3) := by decide +kernel
theorem xd_R_compile_5 : decode xb_R_compile 5 = .ok (.iload_n 1, 1) := by decide +kernel
theorem xd_R_compile_6 : decode xb_R_compile 6 = .ok (.iconst 0, 1) := by decide +kernel
theorem xd_R_compile_7 : decode xb_R_compile 7 = .ok (.iconst 5, 1) := by decide +kernel
theorem xd_R_compile_8 : decode xb_R_compile 8 = .ok (.invokestatic 83, 3) := by decide +kernel
theorem xd_R_compile_11 : decode xb_R_compile 11 = .ok (.ifCond .ne 5, 3) := by decide +kernel
theorem xd_R_compile_14 : decode xb_R_compile 14 = .ok (.iconst (-1), 1) := by decide +kernel
theorem xd_R_compile_15 : decode xb_R_compile 15 = .ok (.ireturn, 1) := by decide +kernel
theorem xd_R_compile_16 : decode xb_R_compile 16 = .ok (.iconst 0, 1) := by decide +kernel
theorem xd_R_compile_17 : decode xb_R_compile 17 = .ok (.istore_n 2, 1) := by decide +kernel
theorem xd_R_compile_18 : decode xb_R_compile 18 = .ok (.iload_n 2, 1) := by decide +kernel
theorem xd_R_compile_19 : decode xb_R_compile 19 = .ok (.aload_n 0, 1) := by decide +kernel
theorem xd_R_compile_20 : decode xb_R_compile 20 = .ok (.getfield 16, 3) := by decide +kernel
theorem xd_R_compile_23 : decode xb_R_compile 23 = .ok (.bipush 12, 2) := by decide +kernel
theorem xd_R_compile_25 : decode xb_R_compile 25 = .ok (.iaload, 1) := by decide +kernel
theorem xd_R_compile_26 : decode xb_R_compile 26 = .ok (.if_icmp .ge 39, 3) := by decide +kernel
theorem xd_R_compile_29 : decode xb_R_compile 29 = .ok (.aload_n 0, 1) := by decide +kernel
theorem xd_R_compile_30 : decode xb_R_compile 30 = .ok (.bipush 36, 2) := by decide +kernel
theorem xd_R_compile_32 : decode xb_R_compile 32 = .ok (.iload_n 2, 1) := by decide +kernel
theorem xd_R_compile_33 : decode xb_R_compile 33 = .ok (.iadd, 1) := by decide +kernel
theorem xd_R_compile_34 : decode xb_R_compile 34 = .ok (.iload_n 1, 1) := by decide +kernel
theorem xd_R_compile_35 : decode xb_R_compile 35 = .ok (.invokevirtual 95, 3) := by decide +kernel
theorem xd_R_compile_38 : decode xb_R_compile 38 = .ok (.istore_n 3, 1) := by decide +kernel
theorem xd_R_compile_39 : decode xb_R_compile 39 = .ok (.iload_n 3, 1) := by decide +kernel
theorem xd_R_compile_40 : decode xb_R_compile 40 = .ok (.ifCond .ge 6, 3) := by decide +kernel
theorem xd_R_compile_43 : decode xb_R_compile 43 = .ok (.goto 16, 3) := by decide +kernel
theorem xd_R_compile_46 : decode xb_R_compile 46 = .ok (.aload_n 0, 1) := by decide +kernel
theorem xd_R_compile_47 : decode xb_R_compile 47 = .ok (.bipush 16, 2) := by decide +kernel
theorem xd_R_compile_49 : decode xb_R_compile 49 = .ok (.iload_n 2, 1) := by decide +kernel
theorem xd_R_compile_50 : decode xb_R_compile 50 = .ok (.imul, 1) := by decide +kernel
theorem xd_R_compile_51 : decode xb_R_compile 51 = .ok (.iload_n 3, 1) := by decide +kernel
theorem xd_R_compile_52 : decode xb_R_compile 52 = .ok (.iadd, 1) := by decide +kernel
theorem xd_R_compile_53 : decode xb_R_compile 53 = .ok (.putfield 46, 3) := by decide +kernel
theorem xd_R_compile_56 : decode xb_R_compile 56 = .ok (.bipush (-3), 2) := by decide +kernel
theorem xd_R_compile_58 : decode xb_R_compile 58 = .ok (.ireturn, 1) := by decide +kernel
theorem xd_R_compile_59 : decode xb_R_compile 59 = .ok (.iinc 2 1, 3) := by decide +kernel
theorem xd_R_compile_62 : decode xb_R_compile 62 = .ok (.goto (-44), 3) := by decide +kernel
theorem xd_R_compile_65 : decode xb_R_compile 65 = .ok (.aload_n 0, 1) := by decide +kernel
theorem xd_R_compile_66 : decode xb_R_compile 66 = .ok (.iload_n 1, 1) := by decide +kernel
theorem xd_R_compile_67 : decode xb_R_compile 67 = .ok (.invokevirtual 98, 3) := by decide +kernel
theorem xd_R_compile_70 : decode xb_R_compile 70 = .ok (.aload_n 0, 1) := by decide +kernel
theorem xd_R_compile_71 : decode xb_R_compile 71 = .ok (.iload_n 1, 1) := by decide +kernel
theorem xd_R_compile_72 : decode xb_R_compile 72 = .ok (.invokevirtual 102, 3) := by decide +kernel
theorem xd_R_compile_75 : decode xb_R_compile 75 = .ok (.ifCond .ne 23, 3) := by decide +kernel
theorem xd_R_compile_78 : decode xb_R_compile 78 = .ok (.aload_n 0, 1) := by decide +kernel
theorem xd_R_compile_79 : decode xb_R_compile 79 = .ok (.dup, 1) := by decide +kernel
theorem xd_R_compile_80 : decode xb_R_compile 80 = .ok (.getfield 106, 3) := by decide +kernel
theorem xd_R_compile_83 : decode xb_R_compile 83 = .ok (.iconst 1, 1) := by decide +kernel
theorem xd_R_compile_84 : decode xb_R_compile 84 = .ok (.iadd, 1) := by decide +kernel
theorem xd_R_compile_85 : decode xb_R_compile 85 = .ok (.putfield 106, 3) := by decide +kernel
theorem xd_R_compile_88 : decode xb_R_compile 88 = .ok (.aload_n 0, 1) := by decide +kernel
theorem xd_R_compile_89 : decode xb_R_compile 89 = .ok (.getfield 7, 3) := by decide +kernel
theorem xd_R_compile_92 : decode xb_R_compile 92 = .ok (.iload_n 1, 1) := by decide +kernel
theorem xd_R_compile_93 : decode xb_R_compile 93 = .ok (.aload_n 0, 1) := by decide +kernel
theorem xd_R_compile_94 : decode xb_R_compile 94 = .ok (.getfield 106, 3) := by decide +kernel
theorem xd_R_compile_97 : decode xb_R_compile 97 = .ok (.iastore, 1) := by decide +kernel
theorem xd_R_compile_98 : decode xb_R_compile 98 = .ok (.aload_n 0, 1) := by decide +kernel
theorem xd_R_compile_99 : decode xb_R_compile 99 = .ok (.bipush 12, 2) := by decide +kernel
theorem xd_R_compile_101 : decode xb_R_compile 101 = .ok (.iload_n 1, 1) := by decide +kernel
theorem xd_R_compile_102 : decode xb_R_compile 102 = .ok (.invokevirtual 109, 3) := by decide +kernel
theorem xd_R_compile_105 : decode xb_R_compile 105 = .ok (.aload_n 0, 1) := by decide +kernel
theorem xd_R_compile_106 : decode xb_R_compile 106 = .ok (.getfield 7, 3) := by decide +kernel
theorem xd_R_compile_109 : decode xb_R_compile 109 = .ok (.iload_n 1, 1) := by decide +kernel
theorem xd_R_compile_110 : decode xb_R_compile 110 = .ok (.iaload, 1) := by decide +kernel
theorem xd_R_compile_111 : decode xb_R_compile 111 = .ok (.ireturn, 1) := by decide +kernel
theorem xd_R_place_0 : decode xb_R_place 0 = .ok (.aload_n 0, 1) := by decide +kernel
theorem xd_R_place_1 : decode xb_R_place 1 = .ok (.getfield 46, 3) := by decide +kernel
theorem xd_R_place_4 : decode xb_R_place 4 = .ok (.ireturn, 1) := by decide +kernel
theorem xd_R_remove_0 : decode xb_R_remove 0 = .ok (.iload_n 1, 1) := by decide +kernel
theorem xd_R_remove_1 : decode xb_R_remove 1 = .ok (.iconst 0, 1) := by decide +kernel
theorem xd_R_remove_2 : decode xb_R_remove 2 = .ok (.iconst 5, 1) := by decide +kernel
theorem xd_R_remove_3 : decode xb_R_remove 3 = .ok (.invokestatic 83, 3) := by decide +kernel
theorem xd_R_remove_6 : decode xb_R_remove 6 = .ok (.ifCond .eq 12, 3) := by decide +kernel
theorem xd_R_remove_9 : decode xb_R_remove 9 = .ok (.aload_n 0, 1) := by decide +kernel
theorem xd_R_remove_10 : decode xb_R_remove 10 = .ok (.getfield 7, 3) := by decide +kernel
theorem xd_R_remove_13 : decode xb_R_remove 13 = .ok (.iload_n 1, 1) := by decide +kernel
theorem xd_R_remove_14 : decode xb_R_remove 14 = .ok (.iaload, 1) := by decide +kernel
theorem xd_R_remove_15 : decode xb_R_remove 15 = .ok (.ifCond .ne 5, 3) := by decide +kernel
theorem xd_R_remove_18 : decode xb_R_remove 18 = .ok (.iconst (-1), 1) := by decide +kernel
theorem xd_R_remove_19 : decode xb_R_remove 19 = .ok (.ireturn, 1) := by decide +kernel
theorem xd_R_remove_20 : decode xb_R_remove 20 = .ok (.aload_n 0, 1) := by decide +kernel
theorem xd_R_remove_21 : decode xb_R_remove 21 = .ok (.getfield 7, 3) := by decide +kernel
theorem xd_R_remove_24 : decode xb_R_remove 24 = .ok (.iload_n 1, 1) := by decide +kernel
theorem xd_R_remove_25 : decode xb_R_remove 25 = .ok (.iconst 0, 1) := by decide +kernel
theorem xd_R_remove_26 : decode xb_R_remove 26 = .ok (.iastore, 1) := by decide +kernel
theorem xd_R_remove_27 : decode xb_R_remove 27 = .ok (.iconst 0, 1) := by decide +kernel
theorem xd_R_remove_28 : decode xb_R_remove 28 = .ok (.ireturn, 1) := by decide +kernel
theorem xd_R_cells_0 : decode xb_R_cells 0 = .ok (.aload_n 0, 1) := by decide +kernel
theorem xd_R_cells_1 : decode xb_R_cells 1 = .ok (.getfield 13, 3) := by decide +kernel
theorem xd_R_cells_4 : decode xb_R_cells 4 = .ok (.iload_n 1, 1) := by decide +kernel
theorem xd_R_cells_5 : decode xb_R_cells 5 = .ok (.iaload, 1) := by decide +kernel
theorem xd_R_cells_6 : decode xb_R_cells 6 = .ok (.istore_n 2, 1) := by decide +kernel
theorem xd_R_cells_7 : decode xb_R_cells 7 = .ok (.iconst 0, 1) := by decide +kernel
theorem xd_R_cells_8 : decode xb_R_cells 8 = .ok (.istore_n 3, 1) := by decide +kernel
theorem xd_R_cells_9 : decode xb_R_cells 9 = .ok (.iload_n 3, 1) := by decide +kernel
theorem xd_R_cells_10 : decode xb_R_cells 10 = .ok (.aload_n 0, 1) := by decide +kernel
theorem xd_R_cells_11 : decode xb_R_cells 11 = .ok (.getfield 16, 3) := by decide +kernel
theorem xd_R_cells_14 : decode xb_R_cells 14 = .ok (.iload_n 1, 1) := by decide +kernel
theorem xd_R_cells_15 : decode xb_R_cells 15 = .ok (.iaload, 1) := by decide +kernel
theorem xd_R_cells_16 : decode xb_R_cells 16 = .ok (.if_icmp .ge 22, 3) := by decide +kernel
theorem xd_R_cells_19 : decode xb_R_cells 19 = .ok (.iload_n 2, 1) := by decide +kernel
theorem xd_R_cells_20 : decode xb_R_cells 20 = .ok (.aload_n 0, 1) := by decide +kernel
theorem xd_R_cells_21 : decode xb_R_cells 21 = .ok (.getfield 22, 3) := by decide +kernel
theorem xd_R_cells_24 : decode xb_R_cells 24 = .ok (.iconst 3, 1) := by decide +kernel
theorem xd_R_cells_25 : decode xb_R_cells 25 = .ok (.iload_n 1, 1) := by decide +kernel
theorem xd_R_cells_26 : decode xb_R_cells 26 = .ok (.imul, 1) := by decide +kernel
theorem xd_R_cells_27 : decode xb_R_cells 27 = .ok (.iload_n 3, 1) := by decide +kernel
theorem xd_R_cells_28 : decode xb_R_cells 28 = .ok (.iadd, 1) := by decide +kernel
theorem xd_R_cells_29 : decode xb_R_cells 29 = .ok (.iaload, 1) := by decide +kernel
theorem xd_R_cells_30 : decode xb_R_cells 30 = .ok (.iadd, 1) := by decide +kernel
theorem xd_R_cells_31 : decode xb_R_cells 31 = .ok (.istore_n 2, 1) := by decide +kernel
theorem xd_R_cells_32 : decode xb_R_cells 32 = .ok (.iinc 3 1, 3) := by decide +kernel
theorem xd_R_cells_35 : decode xb_R_cells 35 = .ok (.goto (-26), 3) := by decide +kernel
theorem xd_R_cells_38 : decode xb_R_cells 38 = .ok (.iload_n 2, 1) := by decide +kernel
theorem xd_R_cells_39 : decode xb_R_cells 39 = .ok (.ireturn, 1) := by decide +kernel
theorem xd_R_allCells_0 : decode xb_R_allCells 0 = .ok (.iconst 0, 1) := by decide +kernel
theorem xd_R_allCells_1 : decode xb_R_allCells 1 = .ok (.istore_n 1, 1) := by decide +kernel
theorem xd_R_allCells_2 : decode xb_R_allCells 2 = .ok (.bipush 6, 2) := by decide +kernel
theorem xd_R_allCells_4 : decode xb_R_allCells 4 = .ok (.istore_n 2, 1) := by decide +kernel
theorem xd_R_allCells_5 : decode xb_R_allCells 5 = .ok (.iload_n 2, 1) := by decide +kernel
theorem xd_R_allCells_6 : decode xb_R_allCells 6 = .ok (.bipush 12, 2) := by decide +kernel
theorem xd_R_allCells_8 : decode xb_R_allCells 8 = .ok (.if_icmp .ge 26, 3) := by decide +kernel
theorem xd_R_allCells_11 : decode xb_R_allCells 11 = .ok (.aload_n 0, 1) := by decide +kernel
theorem xd_R_allCells_12 : decode xb_R_allCells 12 = .ok (.getfield 7, 3) := by decide +kernel
theorem xd_R_allCells_15 : decode xb_R_allCells 15 = .ok (.iload_n 2, 1) := by decide +kernel
theorem xd_R_allCells_16 : decode xb_R_allCells 16 = .ok (.iaload, 1) := by decide +kernel
theorem xd_R_allCells_17 : decode xb_R_allCells 17 = .ok (.ifCond .le 11, 3) := by decide +kernel
theorem xd_R_allCells_20 : decode xb_R_allCells 20 = .ok (.iload_n 1, 1) := by decide +kernel
theorem xd_R_allCells_21 : decode xb_R_allCells 21 = .ok (.aload_n 0, 1) := by decide +kernel
theorem xd_R_allCells_22 : decode xb_R_allCells 22 = .ok (.iload_n 2, 1) := by decide +kernel
theorem xd_R_allCells_23 : decode xb_R_allCells 23 = .ok (.invokevirtual 113, 3) := by decide +kernel
theorem xd_R_allCells_26 : decode xb_R_allCells 26 = .ok (.iadd, 1) := by decide +kernel
theorem xd_R_allCells_27 : decode xb_R_allCells 27 = .ok (.istore_n 1, 1) := by decide +kernel
theorem xd_R_allCells_28 : decode xb_R_allCells 28 = .ok (.iinc 2 1, 3) := by decide +kernel
theorem xd_R_allCells_31 : decode xb_R_allCells 31 = .ok (.goto (-26), 3) := by decide +kernel
theorem xd_R_allCells_34 : decode xb_R_allCells 34 = .ok (.iload_n 1, 1) := by decide +kernel
theorem xd_R_allCells_35 : decode xb_R_allCells 35 = .ok (.ireturn, 1) := by decide +kernel
theorem xd_R_begins_0 : decode xb_R_begins 0 = .ok (.iconst 0, 1) := by decide +kernel
theorem xd_R_begins_1 : decode xb_R_begins 1 = .ok (.istore_n 3, 1) := by decide +kernel
theorem xd_R_begins_2 : decode xb_R_begins 2 = .ok (.iload_n 3, 1) := by decide +kernel
theorem xd_R_begins_3 : decode xb_R_begins 3 = .ok (.iload_n 2, 1) := by decide +kernel
theorem xd_R_begins_4 : decode xb_R_begins 4 = .ok (.if_icmp .ge 22, 3) := by decide +kernel
theorem xd_R_begins_7 : decode xb_R_begins 7 = .ok (.aload_n 0, 1) := by decide +kernel
theorem xd_R_begins_8 : decode xb_R_begins 8 = .ok (.getfield 50, 3) := by decide +kernel
theorem xd_R_begins_11 : decode xb_R_begins 11 = .ok (.iload_n 3, 1) := by decide +kernel
theorem xd_R_begins_12 : decode xb_R_begins 12 = .ok (.iaload, 1) := by decide +kernel
theorem xd_R_begins_13 : decode xb_R_begins 13 = .ok (.iload_n 1, 1) := by decide +kernel
theorem xd_R_begins_14 : decode xb_R_begins 14 = .ok (.if_icmp .ne 6, 3) := by decide +kernel
theorem xd_R_begins_17 : decode xb_R_begins 17 = .ok (.bipush (-6), 2) := by decide +kernel
theorem xd_R_begins_19 : decode xb_R_begins 19 = .ok (.ireturn, 1) := by decide +kernel
theorem xd_R_begins_20 : decode xb_R_begins 20 = .ok (.iinc 3 1, 3) := by decide +kernel
theorem xd_R_begins_23 : decode xb_R_begins 23 = .ok (.goto (-21), 3) := by decide +kernel
theorem xd_R_begins_26 : decode xb_R_begins 26 = .ok (.aload_n 0, 1) := by decide +kernel
theorem xd_R_begins_27 : decode xb_R_begins 27 = .ok (.getfield 7, 3) := by decide +kernel
theorem xd_R_begins_30 : decode xb_R_begins 30 = .ok (.iload_n 1, 1) := by decide +kernel
theorem xd_R_begins_31 : decode xb_R_begins 31 = .ok (.iaload, 1) := by decide +kernel
theorem xd_R_begins_32 : decode xb_R_begins 32 = .ok (.ifCond .ne 8, 3) := by decide +kernel
theorem xd_R_begins_35 : decode xb_R_begins 35 = .ok (.bipush (-4), 2) := by decide +kernel
theorem xd_R_begins_37 : decode xb_R_begins 37 = .ok (.goto 4, 3) := by decide +kernel
theorem xd_R_begins_40 : decode xb_R_begins 40 = .ok (.iconst 0, 1) := by decide +kernel
theorem xd_R_begins_41 : decode xb_R_begins 41 = .ok (.ireturn, 1) := by decide +kernel
section
variable {l : Launch} {D : va_G} {ad : Nat → Nat} {ids : Nat → ClassId} {ps : Nat}
def xq_R_copy_171 (c_38 : aw_m → Int32 → Int32 → Int32 → Option aw_m) (c_91 : aw_m → Int32 → Int32 → Int32 → Option aw_m) : Nat → aw_m → Int32 → Int32 → Int32 → Option aw_m
  | 0, _, _, _, _ => none
  | n + 1, σ, v1, v2, v3 => (if (5 : Int32) ≤ v3 then some σ else if aw_in (((5 : Int32) * v1) + v3) 65 = true then if aw_in (((5 : Int32) * v2) + v3) 65 = true then aw_l (aw_p σ 10 (Int32.toNatClampNeg (((5 : Int32) * v2) + v3)) (σ 10 (Int32.toNatClampNeg (((5 : Int32) * v1) + v3)))) fun s_195 => if aw_in (((5 : Int32) * v1) + v3) 65 = true then if aw_in (((5 : Int32) * v2) + v3) 65 = true then aw_l (aw_p s_195 11 (Int32.toNatClampNeg (((5 : Int32) * v2) + v3)) (s_195 11 (Int32.toNatClampNeg (((5 : Int32) * v1) + v3)))) fun s_215 => xq_R_copy_171 c_38 c_91 n s_215 v1 v2 (v3 + (1 : Int32)) else none else none else none else none)
def xq_R_copy_91 (c_38 : aw_m → Int32 → Int32 → Int32 → Option aw_m) : Nat → aw_m → Int32 → Int32 → Int32 → Option aw_m
  | 0, _, _, _, _ => none
  | n + 1, σ, v1, v2, v3 => (if (42 : Int32) ≤ v3 then xq_R_copy_171 c_38 (xq_R_copy_91 c_38 n) 64 σ v1 v2 (0 : Int32) else if aw_in (((42 : Int32) * v1) + v3) 546 = true then if aw_in (((42 : Int32) * v2) + v3) 546 = true then aw_l (aw_p σ 6 (Int32.toNatClampNeg (((42 : Int32) * v2) + v3)) (σ 6 (Int32.toNatClampNeg (((42 : Int32) * v1) + v3)))) fun s_118 => if aw_in (((42 : Int32) * v1) + v3) 546 = true then if aw_in (((42 : Int32) * v2) + v3) 546 = true then aw_l (aw_p s_118 7 (Int32.toNatClampNeg (((42 : Int32) * v2) + v3)) (s_118 7 (Int32.toNatClampNeg (((42 : Int32) * v1) + v3)))) fun s_140 => if aw_in (((42 : Int32) * v1) + v3) 546 = true then if aw_in (((42 : Int32) * v2) + v3) 546 = true then aw_l (aw_p s_140 8 (Int32.toNatClampNeg (((42 : Int32) * v2) + v3)) (s_140 8 (Int32.toNatClampNeg (((42 : Int32) * v1) + v3)))) fun s_162 => xq_R_copy_91 c_38 n s_162 v1 v2 (v3 + (1 : Int32)) else none else none else none else none else none else none)
def xq_R_copy_38  : Nat → aw_m → Int32 → Int32 → Int32 → Option aw_m
  | 0, _, _, _, _ => none
  | n + 1, σ, v1, v2, v3 => (if (3 : Int32) ≤ v3 then xq_R_copy_91 (xq_R_copy_38 n) 64 σ v1 v2 (0 : Int32) else if aw_in (((3 : Int32) * v1) + v3) 39 = true then if aw_in (((3 : Int32) * v2) + v3) 39 = true then aw_l (aw_p σ 4 (Int32.toNatClampNeg (((3 : Int32) * v2) + v3)) (σ 4 (Int32.toNatClampNeg (((3 : Int32) * v1) + v3)))) fun s_62 => if aw_in (((3 : Int32) * v1) + v3) 39 = true then if aw_in (((3 : Int32) * v2) + v3) 39 = true then aw_l (aw_p s_62 5 (Int32.toNatClampNeg (((3 : Int32) * v2) + v3)) (s_62 5 (Int32.toNatClampNeg (((3 : Int32) * v1) + v3)))) fun s_82 => xq_R_copy_38 n s_82 v1 v2 (v3 + (1 : Int32)) else none else none else none else none)
def xm_R_copy (σ : aw_m) (a1 : Int32) (a2 : Int32) : Option aw_m := if aw_in a1 13 = true then if aw_in a2 13 = true then aw_l (aw_p σ 2 (Int32.toNatClampNeg a2) (σ 2 (Int32.toNatClampNeg a1))) fun s_11 => if aw_in a1 13 = true then if aw_in a2 13 = true then aw_l (aw_p s_11 3 (Int32.toNatClampNeg a2) (s_11 3 (Int32.toNatClampNeg a1))) fun s_23 => if aw_in a1 13 = true then if aw_in a2 13 = true then aw_l (aw_p s_23 9 (Int32.toNatClampNeg a2) (s_23 9 (Int32.toNatClampNeg a1))) fun s_35 => xq_R_copy_38 64 s_35 a1 a2 (0 : Int32) else none else none else none else none else none else none
set_option maxHeartbeats 4000000 in
set_option maxRecDepth 100000 in
theorem xl_R_copy_171 (c_38 : aw_m → Int32 → Int32 → Int32 → Option aw_m) (c_91 : aw_m → Int32 → Int32 → Int32 → Option aw_m) {κ : aw_K} (q : aw_m) (C : aw_X l D (ty_z ids) (zs_T ps) (rm_D (0)) xb_R_copy 4 "ModuleShelfModel" (xw_R_copy :: gw_l) none none (rw_w ad ids q) κ) (hc_38 : ∀ (σ : aw_m) (v1 : Int32) (v2 : Int32) (v3 : Int32) , c_38 σ v1 v2 v3 = some q → aw_J κ 0 0 (rw_w ad ids σ) [(0, .ref (ad 0)), (1, .int v1), (2, .int v2), (3, .int v3)] 38 []) (hc_91 : ∀ (σ : aw_m) (v1 : Int32) (v2 : Int32) (v3 : Int32) , c_91 σ v1 v2 v3 = some q → aw_J κ 0 0 (rw_w ad ids σ) [(0, .ref (ad 0)), (1, .int v1), (2, .int v2), (3, .int v3)] 91 []) : ∀ (n : Nat) (σ : aw_m) (v1 : Int32) (v2 : Int32) (v3 : Int32) , xq_R_copy_171 c_38 c_91 n σ v1 v2 v3 = some q → aw_J κ 0 0 (rw_w ad ids σ) [(0, .ref (ad 0)), (1, .int v1), (2, .int v2), (3, .int v3)] 171 [] := by
  intro n
  induction n with
  | zero => intro σ v1 v2 v3 hm; cases hm
  | succ n ih =>
    intro σ v1 v2 v3 hm
    rw [xq_R_copy_171] at hm
    refine aw_iload_n C 3 xd_R_copy_171 rfl rfl ?_
    refine aw_iconst (v := (5 : Int32)) C xd_R_copy_172 (by decide) ?_
    refine aw_icmp_ge (tgt := 222) C xd_R_copy_173 (by decide) (fun c_173 => ?_) (fun c_173 => ?_)
    · rw [if_pos c_173] at hm
      cases hm
      exact aw_vret C xd_R_copy_222
    · rw [if_neg c_173] at hm
      refine aw_aload_n C 0 xd_R_copy_176 rfl rfl ?_
      refine aw_get C 0 (by decide) rfl rfl (fun w h => List.mem_cons_of_mem _ (xi_R w h)) 9 (by decide) rfl (List.mem_cons_of_mem _ fl_R_37) xd_R_copy_177 ?_
      refine aw_iconst (v := (5 : Int32)) C xd_R_copy_180 (by decide) ?_
      refine aw_iload_n C 2 xd_R_copy_181 rfl rfl ?_
      refine aw_imul C xd_R_copy_182 ?_
      refine aw_iload_n C 3 xd_R_copy_183 rfl rfl ?_
      refine aw_iadd C xd_R_copy_184 ?_
      refine aw_aload_n C 0 xd_R_copy_185 rfl rfl ?_
      refine aw_get C 0 (by decide) rfl rfl (fun w h => List.mem_cons_of_mem _ (xi_R w h)) 9 (by decide) rfl (List.mem_cons_of_mem _ fl_R_37) xd_R_copy_186 ?_
      refine aw_iconst (v := (5 : Int32)) C xd_R_copy_189 (by decide) ?_
      refine aw_iload_n C 1 xd_R_copy_190 rfl rfl ?_
      refine aw_imul C xd_R_copy_191 ?_
      refine aw_iload_n C 3 xd_R_copy_192 rfl rfl ?_
      refine aw_iadd C xd_R_copy_193 ?_
      obtain ⟨g_194, hm⟩ := aw_grd hm
      refine aw_iald C 10 (by decide) 0 rfl rfl (aw_in_ok g_194) xd_R_copy_194 ?_
      obtain ⟨g_195, hm⟩ := aw_grd hm
      obtain ⟨s_195, h_195, hm⟩ := aw_let hm
      refine aw_iast (σ1 := s_195) (g := upd (σ 10) (Int32.toNatClampNeg (((5 : Int32) * v2) + v3)) (σ 10 (Int32.toNatClampNeg (((5 : Int32) * v1) + v3)))) C 10 (by decide) 0 rfl rfl (aw_in_ok g_195) rfl h_195 xd_R_copy_195 ?_
      refine aw_aload_n C 0 xd_R_copy_196 rfl rfl ?_
      refine aw_get C 0 (by decide) rfl rfl (fun w h => List.mem_cons_of_mem _ (xi_R w h)) 10 (by decide) rfl (List.mem_cons_of_mem _ fl_R_40) xd_R_copy_197 ?_
      refine aw_iconst (v := (5 : Int32)) C xd_R_copy_200 (by decide) ?_
      refine aw_iload_n C 2 xd_R_copy_201 rfl rfl ?_
      refine aw_imul C xd_R_copy_202 ?_
      refine aw_iload_n C 3 xd_R_copy_203 rfl rfl ?_
      refine aw_iadd C xd_R_copy_204 ?_
      refine aw_aload_n C 0 xd_R_copy_205 rfl rfl ?_
      refine aw_get C 0 (by decide) rfl rfl (fun w h => List.mem_cons_of_mem _ (xi_R w h)) 10 (by decide) rfl (List.mem_cons_of_mem _ fl_R_40) xd_R_copy_206 ?_
      refine aw_iconst (v := (5 : Int32)) C xd_R_copy_209 (by decide) ?_
      refine aw_iload_n C 1 xd_R_copy_210 rfl rfl ?_
      refine aw_imul C xd_R_copy_211 ?_
      refine aw_iload_n C 3 xd_R_copy_212 rfl rfl ?_
      refine aw_iadd C xd_R_copy_213 ?_
      obtain ⟨g_214, hm⟩ := aw_grd hm
      refine aw_iald C 11 (by decide) 0 rfl rfl (aw_in_ok g_214) xd_R_copy_214 ?_
      obtain ⟨g_215, hm⟩ := aw_grd hm
      obtain ⟨s_215, h_215, hm⟩ := aw_let hm
      refine aw_iast (σ1 := s_215) (g := upd (s_195 11) (Int32.toNatClampNeg (((5 : Int32) * v2) + v3)) (s_195 11 (Int32.toNatClampNeg (((5 : Int32) * v1) + v3)))) C 11 (by decide) 0 rfl rfl (aw_in_ok g_215) rfl h_215 xd_R_copy_215 ?_
      refine aw_iinc (j := 3) (v := v3 + (1 : Int32)) (L' := [(3, .int (v3 + (1 : Int32))), (0, .ref (ad 0)), (1, .int v1), (2, .int v2)]) C xd_R_copy_216 rfl rfl (by decide) rfl ?_
      refine aw_goto (tgt := 171) C xd_R_copy_219 (by decide) ?_
      refine aw_loc (L' := [(0, .ref (ad 0)), (1, .int v1), (2, .int v2), (3, .int (v3 + (1 : Int32)))]) C [1, 2, 3, 0] rfl ?_
      exact ih s_215 v1 v2 (v3 + (1 : Int32))  hm
set_option maxHeartbeats 4000000 in
set_option maxRecDepth 100000 in
theorem xl_R_copy_91 (c_38 : aw_m → Int32 → Int32 → Int32 → Option aw_m) {κ : aw_K} (q : aw_m) (C : aw_X l D (ty_z ids) (zs_T ps) (rm_D (0)) xb_R_copy 4 "ModuleShelfModel" (xw_R_copy :: gw_l) none none (rw_w ad ids q) κ) (hc_38 : ∀ (σ : aw_m) (v1 : Int32) (v2 : Int32) (v3 : Int32) , c_38 σ v1 v2 v3 = some q → aw_J κ 0 0 (rw_w ad ids σ) [(0, .ref (ad 0)), (1, .int v1), (2, .int v2), (3, .int v3)] 38 []) : ∀ (n : Nat) (σ : aw_m) (v1 : Int32) (v2 : Int32) (v3 : Int32) , xq_R_copy_91 c_38 n σ v1 v2 v3 = some q → aw_J κ 0 0 (rw_w ad ids σ) [(0, .ref (ad 0)), (1, .int v1), (2, .int v2), (3, .int v3)] 91 [] := by
  intro n
  induction n with
  | zero => intro σ v1 v2 v3 hm; cases hm
  | succ n ih =>
    intro σ v1 v2 v3 hm
    rw [xq_R_copy_91] at hm
    refine aw_iload_n C 3 xd_R_copy_91 rfl rfl ?_
    refine aw_bipush (v := (42 : Int32)) C xd_R_copy_92 (by decide) ?_
    refine aw_icmp_ge (tgt := 169) C xd_R_copy_94 (by decide) (fun c_94 => ?_) (fun c_94 => ?_)
    · rw [if_pos c_94] at hm
      refine aw_iconst (v := (0 : Int32)) C xd_R_copy_169 (by decide) ?_
      refine aw_istore_n (L' := [(3, .int (0 : Int32)), (0, .ref (ad 0)), (1, .int v1), (2, .int v2)]) C xd_R_copy_170 rfl (by decide) rfl ?_
      refine aw_loc (L' := [(0, .ref (ad 0)), (1, .int v1), (2, .int v2), (3, .int (0 : Int32))]) C [1, 2, 3, 0] rfl ?_
      exact xl_R_copy_171 c_38 (xq_R_copy_91 c_38 n) _ C hc_38 ih 64 σ v1 v2 (0 : Int32)  hm
    · rw [if_neg c_94] at hm
      refine aw_aload_n C 0 xd_R_copy_97 rfl rfl ?_
      refine aw_get C 0 (by decide) rfl rfl (fun w h => List.mem_cons_of_mem _ (xi_R w h)) 5 (by decide) rfl (List.mem_cons_of_mem _ fl_R_25) xd_R_copy_98 ?_
      refine aw_bipush (v := (42 : Int32)) C xd_R_copy_101 (by decide) ?_
      refine aw_iload_n C 2 xd_R_copy_103 rfl rfl ?_
      refine aw_imul C xd_R_copy_104 ?_
      refine aw_iload_n C 3 xd_R_copy_105 rfl rfl ?_
      refine aw_iadd C xd_R_copy_106 ?_
      refine aw_aload_n C 0 xd_R_copy_107 rfl rfl ?_
      refine aw_get C 0 (by decide) rfl rfl (fun w h => List.mem_cons_of_mem _ (xi_R w h)) 5 (by decide) rfl (List.mem_cons_of_mem _ fl_R_25) xd_R_copy_108 ?_
      refine aw_bipush (v := (42 : Int32)) C xd_R_copy_111 (by decide) ?_
      refine aw_iload_n C 1 xd_R_copy_113 rfl rfl ?_
      refine aw_imul C xd_R_copy_114 ?_
      refine aw_iload_n C 3 xd_R_copy_115 rfl rfl ?_
      refine aw_iadd C xd_R_copy_116 ?_
      obtain ⟨g_117, hm⟩ := aw_grd hm
      refine aw_iald C 6 (by decide) 0 rfl rfl (aw_in_ok g_117) xd_R_copy_117 ?_
      obtain ⟨g_118, hm⟩ := aw_grd hm
      obtain ⟨s_118, h_118, hm⟩ := aw_let hm
      refine aw_iast (σ1 := s_118) (g := upd (σ 6) (Int32.toNatClampNeg (((42 : Int32) * v2) + v3)) (σ 6 (Int32.toNatClampNeg (((42 : Int32) * v1) + v3)))) C 6 (by decide) 0 rfl rfl (aw_in_ok g_118) rfl h_118 xd_R_copy_118 ?_
      refine aw_aload_n C 0 xd_R_copy_119 rfl rfl ?_
      refine aw_get C 0 (by decide) rfl rfl (fun w h => List.mem_cons_of_mem _ (xi_R w h)) 6 (by decide) rfl (List.mem_cons_of_mem _ fl_R_28) xd_R_copy_120 ?_
      refine aw_bipush (v := (42 : Int32)) C xd_R_copy_123 (by decide) ?_
      refine aw_iload_n C 2 xd_R_copy_125 rfl rfl ?_
      refine aw_imul C xd_R_copy_126 ?_
      refine aw_iload_n C 3 xd_R_copy_127 rfl rfl ?_
      refine aw_iadd C xd_R_copy_128 ?_
      refine aw_aload_n C 0 xd_R_copy_129 rfl rfl ?_
      refine aw_get C 0 (by decide) rfl rfl (fun w h => List.mem_cons_of_mem _ (xi_R w h)) 6 (by decide) rfl (List.mem_cons_of_mem _ fl_R_28) xd_R_copy_130 ?_
      refine aw_bipush (v := (42 : Int32)) C xd_R_copy_133 (by decide) ?_
      refine aw_iload_n C 1 xd_R_copy_135 rfl rfl ?_
      refine aw_imul C xd_R_copy_136 ?_
      refine aw_iload_n C 3 xd_R_copy_137 rfl rfl ?_
      refine aw_iadd C xd_R_copy_138 ?_
      obtain ⟨g_139, hm⟩ := aw_grd hm
      refine aw_iald C 7 (by decide) 0 rfl rfl (aw_in_ok g_139) xd_R_copy_139 ?_
      obtain ⟨g_140, hm⟩ := aw_grd hm
      obtain ⟨s_140, h_140, hm⟩ := aw_let hm
      refine aw_iast (σ1 := s_140) (g := upd (s_118 7) (Int32.toNatClampNeg (((42 : Int32) * v2) + v3)) (s_118 7 (Int32.toNatClampNeg (((42 : Int32) * v1) + v3)))) C 7 (by decide) 0 rfl rfl (aw_in_ok g_140) rfl h_140 xd_R_copy_140 ?_
      refine aw_aload_n C 0 xd_R_copy_141 rfl rfl ?_
      refine aw_get C 0 (by decide) rfl rfl (fun w h => List.mem_cons_of_mem _ (xi_R w h)) 7 (by decide) rfl (List.mem_cons_of_mem _ fl_R_31) xd_R_copy_142 ?_
      refine aw_bipush (v := (42 : Int32)) C xd_R_copy_145 (by decide) ?_
      refine aw_iload_n C 2 xd_R_copy_147 rfl rfl ?_
      refine aw_imul C xd_R_copy_148 ?_
      refine aw_iload_n C 3 xd_R_copy_149 rfl rfl ?_
      refine aw_iadd C xd_R_copy_150 ?_
      refine aw_aload_n C 0 xd_R_copy_151 rfl rfl ?_
      refine aw_get C 0 (by decide) rfl rfl (fun w h => List.mem_cons_of_mem _ (xi_R w h)) 7 (by decide) rfl (List.mem_cons_of_mem _ fl_R_31) xd_R_copy_152 ?_
      refine aw_bipush (v := (42 : Int32)) C xd_R_copy_155 (by decide) ?_
      refine aw_iload_n C 1 xd_R_copy_157 rfl rfl ?_
      refine aw_imul C xd_R_copy_158 ?_
      refine aw_iload_n C 3 xd_R_copy_159 rfl rfl ?_
      refine aw_iadd C xd_R_copy_160 ?_
      obtain ⟨g_161, hm⟩ := aw_grd hm
      refine aw_iald C 8 (by decide) 0 rfl rfl (aw_in_ok g_161) xd_R_copy_161 ?_
      obtain ⟨g_162, hm⟩ := aw_grd hm
      obtain ⟨s_162, h_162, hm⟩ := aw_let hm
      refine aw_iast (σ1 := s_162) (g := upd (s_140 8) (Int32.toNatClampNeg (((42 : Int32) * v2) + v3)) (s_140 8 (Int32.toNatClampNeg (((42 : Int32) * v1) + v3)))) C 8 (by decide) 0 rfl rfl (aw_in_ok g_162) rfl h_162 xd_R_copy_162 ?_
      refine aw_iinc (j := 3) (v := v3 + (1 : Int32)) (L' := [(3, .int (v3 + (1 : Int32))), (0, .ref (ad 0)), (1, .int v1), (2, .int v2)]) C xd_R_copy_163 rfl rfl (by decide) rfl ?_
      refine aw_goto (tgt := 91) C xd_R_copy_166 (by decide) ?_
      refine aw_loc (L' := [(0, .ref (ad 0)), (1, .int v1), (2, .int v2), (3, .int (v3 + (1 : Int32)))]) C [1, 2, 3, 0] rfl ?_
      exact ih s_162 v1 v2 (v3 + (1 : Int32))  hm
set_option maxHeartbeats 4000000 in
set_option maxRecDepth 100000 in
theorem xl_R_copy_38  {κ : aw_K} (q : aw_m) (C : aw_X l D (ty_z ids) (zs_T ps) (rm_D (0)) xb_R_copy 4 "ModuleShelfModel" (xw_R_copy :: gw_l) none none (rw_w ad ids q) κ) : ∀ (n : Nat) (σ : aw_m) (v1 : Int32) (v2 : Int32) (v3 : Int32) , xq_R_copy_38 n σ v1 v2 v3 = some q → aw_J κ 0 0 (rw_w ad ids σ) [(0, .ref (ad 0)), (1, .int v1), (2, .int v2), (3, .int v3)] 38 [] := by
  intro n
  induction n with
  | zero => intro σ v1 v2 v3 hm; cases hm
  | succ n ih =>
    intro σ v1 v2 v3 hm
    rw [xq_R_copy_38] at hm
    refine aw_iload_n C 3 xd_R_copy_38 rfl rfl ?_
    refine aw_iconst (v := (3 : Int32)) C xd_R_copy_39 (by decide) ?_
    refine aw_icmp_ge (tgt := 89) C xd_R_copy_40 (by decide) (fun c_40 => ?_) (fun c_40 => ?_)
    · rw [if_pos c_40] at hm
      refine aw_iconst (v := (0 : Int32)) C xd_R_copy_89 (by decide) ?_
      refine aw_istore_n (L' := [(3, .int (0 : Int32)), (0, .ref (ad 0)), (1, .int v1), (2, .int v2)]) C xd_R_copy_90 rfl (by decide) rfl ?_
      refine aw_loc (L' := [(0, .ref (ad 0)), (1, .int v1), (2, .int v2), (3, .int (0 : Int32))]) C [1, 2, 3, 0] rfl ?_
      exact xl_R_copy_91 (xq_R_copy_38 n) _ C ih 64 σ v1 v2 (0 : Int32)  hm
    · rw [if_neg c_40] at hm
      refine aw_aload_n C 0 xd_R_copy_43 rfl rfl ?_
      refine aw_get C 0 (by decide) rfl rfl (fun w h => List.mem_cons_of_mem _ (xi_R w h)) 3 (by decide) rfl (List.mem_cons_of_mem _ fl_R_19) xd_R_copy_44 ?_
      refine aw_iconst (v := (3 : Int32)) C xd_R_copy_47 (by decide) ?_
      refine aw_iload_n C 2 xd_R_copy_48 rfl rfl ?_
      refine aw_imul C xd_R_copy_49 ?_
      refine aw_iload_n C 3 xd_R_copy_50 rfl rfl ?_
      refine aw_iadd C xd_R_copy_51 ?_
      refine aw_aload_n C 0 xd_R_copy_52 rfl rfl ?_
      refine aw_get C 0 (by decide) rfl rfl (fun w h => List.mem_cons_of_mem _ (xi_R w h)) 3 (by decide) rfl (List.mem_cons_of_mem _ fl_R_19) xd_R_copy_53 ?_
      refine aw_iconst (v := (3 : Int32)) C xd_R_copy_56 (by decide) ?_
      refine aw_iload_n C 1 xd_R_copy_57 rfl rfl ?_
      refine aw_imul C xd_R_copy_58 ?_
      refine aw_iload_n C 3 xd_R_copy_59 rfl rfl ?_
      refine aw_iadd C xd_R_copy_60 ?_
      obtain ⟨g_61, hm⟩ := aw_grd hm
      refine aw_iald C 4 (by decide) 0 rfl rfl (aw_in_ok g_61) xd_R_copy_61 ?_
      obtain ⟨g_62, hm⟩ := aw_grd hm
      obtain ⟨s_62, h_62, hm⟩ := aw_let hm
      refine aw_iast (σ1 := s_62) (g := upd (σ 4) (Int32.toNatClampNeg (((3 : Int32) * v2) + v3)) (σ 4 (Int32.toNatClampNeg (((3 : Int32) * v1) + v3)))) C 4 (by decide) 0 rfl rfl (aw_in_ok g_62) rfl h_62 xd_R_copy_62 ?_
      refine aw_aload_n C 0 xd_R_copy_63 rfl rfl ?_
      refine aw_get C 0 (by decide) rfl rfl (fun w h => List.mem_cons_of_mem _ (xi_R w h)) 4 (by decide) rfl (List.mem_cons_of_mem _ fl_R_22) xd_R_copy_64 ?_
      refine aw_iconst (v := (3 : Int32)) C xd_R_copy_67 (by decide) ?_
      refine aw_iload_n C 2 xd_R_copy_68 rfl rfl ?_
      refine aw_imul C xd_R_copy_69 ?_
      refine aw_iload_n C 3 xd_R_copy_70 rfl rfl ?_
      refine aw_iadd C xd_R_copy_71 ?_
      refine aw_aload_n C 0 xd_R_copy_72 rfl rfl ?_
      refine aw_get C 0 (by decide) rfl rfl (fun w h => List.mem_cons_of_mem _ (xi_R w h)) 4 (by decide) rfl (List.mem_cons_of_mem _ fl_R_22) xd_R_copy_73 ?_
      refine aw_iconst (v := (3 : Int32)) C xd_R_copy_76 (by decide) ?_
      refine aw_iload_n C 1 xd_R_copy_77 rfl rfl ?_
      refine aw_imul C xd_R_copy_78 ?_
      refine aw_iload_n C 3 xd_R_copy_79 rfl rfl ?_
      refine aw_iadd C xd_R_copy_80 ?_
      obtain ⟨g_81, hm⟩ := aw_grd hm
      refine aw_iald C 5 (by decide) 0 rfl rfl (aw_in_ok g_81) xd_R_copy_81 ?_
      obtain ⟨g_82, hm⟩ := aw_grd hm
      obtain ⟨s_82, h_82, hm⟩ := aw_let hm
      refine aw_iast (σ1 := s_82) (g := upd (s_62 5) (Int32.toNatClampNeg (((3 : Int32) * v2) + v3)) (s_62 5 (Int32.toNatClampNeg (((3 : Int32) * v1) + v3)))) C 5 (by decide) 0 rfl rfl (aw_in_ok g_82) rfl h_82 xd_R_copy_82 ?_
      refine aw_iinc (j := 3) (v := v3 + (1 : Int32)) (L' := [(3, .int (v3 + (1 : Int32))), (0, .ref (ad 0)), (1, .int v1), (2, .int v2)]) C xd_R_copy_83 rfl rfl (by decide) rfl ?_
      refine aw_goto (tgt := 38) C xd_R_copy_86 (by decide) ?_
      refine aw_loc (L' := [(0, .ref (ad 0)), (1, .int v1), (2, .int v2), (3, .int (v3 + (1 : Int32)))]) C [1, 2, 3, 0] rfl ?_
      exact ih s_82 v1 v2 (v3 + (1 : Int32))  hm
set_option maxHeartbeats 4000000 in
set_option maxRecDepth 100000 in
theorem xc_R_copy (σ : aw_m) (a1 : Int32) (a2 : Int32) (q : aw_m)  (hm : xm_R_copy σ a1 a2 = some q) : aw_M l D (ty_z ids) (zs_T ps) xy_R_copy (xw_R_copy :: gw_l) (rm_D (0)) [.ref (ad 0), .int a1, .int a2] (rw_w ad ids σ) none (rw_w ad ids q) := by
  refine aw_intro (cc := xb_R_copy) (n := 4) (ret := none) "ModuleShelfModel" rfl (by decide) rfl (Nat.le_of_ble_eq_true rfl) ?_
  intro κ C
  unfold xm_R_copy at hm
  refine aw_aload_n C 0 xd_R_copy_0 rfl rfl ?_
  refine aw_get C 0 (by decide) rfl rfl (fun w h => List.mem_cons_of_mem _ (xi_R w h)) 1 (by decide) rfl (List.mem_cons_of_mem _ fl_R_13) xd_R_copy_1 ?_
  refine aw_iload_n C 2 xd_R_copy_4 rfl rfl ?_
  refine aw_aload_n C 0 xd_R_copy_5 rfl rfl ?_
  refine aw_get C 0 (by decide) rfl rfl (fun w h => List.mem_cons_of_mem _ (xi_R w h)) 1 (by decide) rfl (List.mem_cons_of_mem _ fl_R_13) xd_R_copy_6 ?_
  refine aw_iload_n C 1 xd_R_copy_9 rfl rfl ?_
  obtain ⟨g_10, hm⟩ := aw_grd hm
  refine aw_iald C 2 (by decide) 0 rfl rfl (aw_in_ok g_10) xd_R_copy_10 ?_
  obtain ⟨g_11, hm⟩ := aw_grd hm
  obtain ⟨s_11, h_11, hm⟩ := aw_let hm
  refine aw_iast (σ1 := s_11) (g := upd (σ 2) (Int32.toNatClampNeg a2) (σ 2 (Int32.toNatClampNeg a1))) C 2 (by decide) 0 rfl rfl (aw_in_ok g_11) rfl h_11 xd_R_copy_11 ?_
  refine aw_aload_n C 0 xd_R_copy_12 rfl rfl ?_
  refine aw_get C 0 (by decide) rfl rfl (fun w h => List.mem_cons_of_mem _ (xi_R w h)) 2 (by decide) rfl (List.mem_cons_of_mem _ fl_R_16) xd_R_copy_13 ?_
  refine aw_iload_n C 2 xd_R_copy_16 rfl rfl ?_
  refine aw_aload_n C 0 xd_R_copy_17 rfl rfl ?_
  refine aw_get C 0 (by decide) rfl rfl (fun w h => List.mem_cons_of_mem _ (xi_R w h)) 2 (by decide) rfl (List.mem_cons_of_mem _ fl_R_16) xd_R_copy_18 ?_
  refine aw_iload_n C 1 xd_R_copy_21 rfl rfl ?_
  obtain ⟨g_22, hm⟩ := aw_grd hm
  refine aw_iald C 3 (by decide) 0 rfl rfl (aw_in_ok g_22) xd_R_copy_22 ?_
  obtain ⟨g_23, hm⟩ := aw_grd hm
  obtain ⟨s_23, h_23, hm⟩ := aw_let hm
  refine aw_iast (σ1 := s_23) (g := upd (s_11 3) (Int32.toNatClampNeg a2) (s_11 3 (Int32.toNatClampNeg a1))) C 3 (by decide) 0 rfl rfl (aw_in_ok g_23) rfl h_23 xd_R_copy_23 ?_
  refine aw_aload_n C 0 xd_R_copy_24 rfl rfl ?_
  refine aw_get C 0 (by decide) rfl rfl (fun w h => List.mem_cons_of_mem _ (xi_R w h)) 8 (by decide) rfl (List.mem_cons_of_mem _ fl_R_34) xd_R_copy_25 ?_
  refine aw_iload_n C 2 xd_R_copy_28 rfl rfl ?_
  refine aw_aload_n C 0 xd_R_copy_29 rfl rfl ?_
  refine aw_get C 0 (by decide) rfl rfl (fun w h => List.mem_cons_of_mem _ (xi_R w h)) 8 (by decide) rfl (List.mem_cons_of_mem _ fl_R_34) xd_R_copy_30 ?_
  refine aw_iload_n C 1 xd_R_copy_33 rfl rfl ?_
  obtain ⟨g_34, hm⟩ := aw_grd hm
  refine aw_iald C 9 (by decide) 0 rfl rfl (aw_in_ok g_34) xd_R_copy_34 ?_
  obtain ⟨g_35, hm⟩ := aw_grd hm
  obtain ⟨s_35, h_35, hm⟩ := aw_let hm
  refine aw_iast (σ1 := s_35) (g := upd (s_23 9) (Int32.toNatClampNeg a2) (s_23 9 (Int32.toNatClampNeg a1))) C 9 (by decide) 0 rfl rfl (aw_in_ok g_35) rfl h_35 xd_R_copy_35 ?_
  refine aw_iconst (v := (0 : Int32)) C xd_R_copy_36 (by decide) ?_
  refine aw_istore_n (L' := [(3, .int (0 : Int32)), (0, .ref (ad 0)), (1, .int a1), (2, .int a2)]) C xd_R_copy_37 rfl (by decide) rfl ?_
  refine aw_loc (L' := [(0, .ref (ad 0)), (1, .int a1), (2, .int a2), (3, .int (0 : Int32))]) C [1, 2, 3, 0] rfl ?_
  exact xl_R_copy_38 _ C 64 s_35 a1 a2 (0 : Int32)  hm
def xq_R_findImports_85 (c_5 : aw_m → Int32 → Int32 → Int32 → Option aw_m) (c_25 : aw_m → Int32 → Int32 → Int32 → Int32 → Option aw_m) : Nat → aw_m → Int32 → Int32 → Int32 → Int32 → Int32 → Int32 → Option aw_m
  | 0, _, _, _, _, _, _, _ => none
  | n + 1, σ, v1, v2, v3, v4, v5, v6 => (if v2 ≤ v6 then (if v5 = 0 then c_25 σ v1 v2 v3 (v4 + (1 : Int32)) else if aw_in v4 546 = true then if aw_in ((60 : Int32) + v2) 65 = true then aw_l (aw_p σ 10 (Int32.toNatClampNeg ((60 : Int32) + v2)) (σ 7 (Int32.toNatClampNeg v4))) fun s_143 => if aw_in v4 546 = true then if aw_in (s_143 7 (Int32.toNatClampNeg v4)) 13 = true then if aw_in ((60 : Int32) + v2) 65 = true then aw_l (aw_p s_143 11 (Int32.toNatClampNeg ((60 : Int32) + v2)) (s_143 1 (Int32.toNatClampNeg (s_143 7 (Int32.toNatClampNeg v4))))) fun s_164 => c_25 s_164 v1 (v2 + (1 : Int32)) v3 (v4 + (1 : Int32)) else none else none else none else none else none) else if aw_in ((60 : Int32) + v6) 65 = true then if aw_in v4 546 = true then (if σ 10 (Int32.toNatClampNeg ((60 : Int32) + v6)) = σ 7 (Int32.toNatClampNeg v4) then xq_R_findImports_85 c_5 c_25 n σ v1 v2 v3 v4 (0 : Int32) (v6 + (1 : Int32)) else xq_R_findImports_85 c_5 c_25 n σ v1 v2 v3 v4 v5 (v6 + (1 : Int32))) else none else none)
def xq_R_findImports_25 (c_5 : aw_m → Int32 → Int32 → Int32 → Option aw_m) : Nat → aw_m → Int32 → Int32 → Int32 → Int32 → Option aw_m
  | 0, _, _, _, _, _ => none
  | n + 1, σ, v1, v2, v3, v4 => if aw_in v3 39 = true then (if ((14 : Int32) * v3) + (σ 5 (Int32.toNatClampNeg v3)) ≤ v4 then c_5 σ v1 v2 (v3 + (1 : Int32)) else if aw_in v4 546 = true then (if σ 6 (Int32.toNatClampNeg v4) = (2 : Int32) then if aw_in v4 546 = true then (if σ 7 (Int32.toNatClampNeg v4) = v1 then xq_R_findImports_85 c_5 (xq_R_findImports_25 c_5 n) 64 σ v1 v2 v3 v4 (0 : Int32) (0 : Int32) else xq_R_findImports_85 c_5 (xq_R_findImports_25 c_5 n) 64 σ v1 v2 v3 v4 (1 : Int32) (0 : Int32)) else none else if aw_in v4 546 = true then (if σ 6 (Int32.toNatClampNeg v4) = (11 : Int32) then if aw_in v4 546 = true then (if σ 7 (Int32.toNatClampNeg v4) = v1 then xq_R_findImports_85 c_5 (xq_R_findImports_25 c_5 n) 64 σ v1 v2 v3 v4 (0 : Int32) (0 : Int32) else xq_R_findImports_85 c_5 (xq_R_findImports_25 c_5 n) 64 σ v1 v2 v3 v4 (1 : Int32) (0 : Int32)) else none else xq_R_findImports_85 c_5 (xq_R_findImports_25 c_5 n) 64 σ v1 v2 v3 v4 (0 : Int32) (0 : Int32)) else none) else none) else none
def xq_R_findImports_5  : Nat → aw_m → Int32 → Int32 → Int32 → Option aw_m
  | 0, _, _, _, _ => none
  | n + 1, σ, v1, v2, v3 => (if (36 : Int32) + (σ 3 (Int32.toNatClampNeg (12 : Int32))) ≤ v3 then aw_l (aw_p σ 9 (Int32.toNatClampNeg (12 : Int32)) v2) fun s_187 => some s_187 else xq_R_findImports_25 (xq_R_findImports_5 n) 64 σ v1 v2 v3 ((14 : Int32) * v3))
def xm_R_findImports (σ : aw_m) (a1 : Int32) : Option aw_m := xq_R_findImports_5 64 σ a1 (0 : Int32) (36 : Int32)
set_option maxHeartbeats 4000000 in
set_option maxRecDepth 100000 in
theorem xl_R_findImports_85 (c_5 : aw_m → Int32 → Int32 → Int32 → Option aw_m) (c_25 : aw_m → Int32 → Int32 → Int32 → Int32 → Option aw_m) {κ : aw_K} (q : aw_m) (C : aw_X l D (ty_z ids) (zs_T ps) (rm_D (0)) xb_R_findImports 7 "ModuleShelfModel" (xw_R_findImports :: gw_l) none none (rw_w ad ids q) κ) (hc_5 : ∀ (σ : aw_m) (v1 : Int32) (v2 : Int32) (v3 : Int32) , c_5 σ v1 v2 v3 = some q → aw_J κ 0 0 (rw_w ad ids σ) [(0, .ref (ad 0)), (1, .int v1), (2, .int v2), (3, .int v3)] 5 []) (hc_25 : ∀ (σ : aw_m) (v1 : Int32) (v2 : Int32) (v3 : Int32) (v4 : Int32) , c_25 σ v1 v2 v3 v4 = some q → aw_J κ 0 0 (rw_w ad ids σ) [(0, .ref (ad 0)), (1, .int v1), (2, .int v2), (3, .int v3), (4, .int v4)] 25 []) : ∀ (n : Nat) (σ : aw_m) (v1 : Int32) (v2 : Int32) (v3 : Int32) (v4 : Int32) (v5 : Int32) (v6 : Int32) , xq_R_findImports_85 c_5 c_25 n σ v1 v2 v3 v4 v5 v6 = some q → aw_J κ 0 0 (rw_w ad ids σ) [(0, .ref (ad 0)), (1, .int v1), (2, .int v2), (3, .int v3), (4, .int v4), (5, .int v5), (6, .int v6)] 85 [] := by
  intro n
  induction n with
  | zero => intro σ v1 v2 v3 v4 v5 v6 hm; cases hm
  | succ n ih =>
    intro σ v1 v2 v3 v4 v5 v6 hm
    rw [xq_R_findImports_85] at hm
    refine aw_iload C 6 xd_R_findImports_85 rfl ?_
    refine aw_iload_n C 2 xd_R_findImports_87 rfl rfl ?_
    refine aw_icmp_ge (tgt := 120) C xd_R_findImports_88 (by decide) (fun c_88 => ?_) (fun c_88 => ?_)
    · rw [if_pos c_88] at hm
      refine aw_iload C 5 xd_R_findImports_120 rfl ?_
      refine aw_if_ne (tgt := 128) C xd_R_findImports_122 (by decide) (fun c_122 => ?_) (fun c_122 => ?_)
      · rw [if_neg c_122] at hm
        refine aw_aload_n C 0 xd_R_findImports_128 rfl rfl ?_
        refine aw_get C 0 (by decide) rfl rfl (fun w h => List.mem_cons_of_mem _ (xi_R w h)) 9 (by decide) rfl (List.mem_cons_of_mem _ fl_R_37) xd_R_findImports_129 ?_
        refine aw_bipush (v := (60 : Int32)) C xd_R_findImports_132 (by decide) ?_
        refine aw_iload_n C 2 xd_R_findImports_134 rfl rfl ?_
        refine aw_iadd C xd_R_findImports_135 ?_
        refine aw_aload_n C 0 xd_R_findImports_136 rfl rfl ?_
        refine aw_get C 0 (by decide) rfl rfl (fun w h => List.mem_cons_of_mem _ (xi_R w h)) 6 (by decide) rfl (List.mem_cons_of_mem _ fl_R_28) xd_R_findImports_137 ?_
        refine aw_iload C 4 xd_R_findImports_140 rfl ?_
        obtain ⟨g_142, hm⟩ := aw_grd hm
        refine aw_iald C 7 (by decide) 0 rfl rfl (aw_in_ok g_142) xd_R_findImports_142 ?_
        obtain ⟨g_143, hm⟩ := aw_grd hm
        obtain ⟨s_143, h_143, hm⟩ := aw_let hm
        refine aw_iast (σ1 := s_143) (g := upd (σ 10) (Int32.toNatClampNeg ((60 : Int32) + v2)) (σ 7 (Int32.toNatClampNeg v4))) C 10 (by decide) 0 rfl rfl (aw_in_ok g_143) rfl h_143 xd_R_findImports_143 ?_
        refine aw_aload_n C 0 xd_R_findImports_144 rfl rfl ?_
        refine aw_get C 0 (by decide) rfl rfl (fun w h => List.mem_cons_of_mem _ (xi_R w h)) 10 (by decide) rfl (List.mem_cons_of_mem _ fl_R_40) xd_R_findImports_145 ?_
        refine aw_bipush (v := (60 : Int32)) C xd_R_findImports_148 (by decide) ?_
        refine aw_iload_n C 2 xd_R_findImports_150 rfl rfl ?_
        refine aw_iadd C xd_R_findImports_151 ?_
        refine aw_aload_n C 0 xd_R_findImports_152 rfl rfl ?_
        refine aw_get C 0 (by decide) rfl rfl (fun w h => List.mem_cons_of_mem _ (xi_R w h)) 0 (by decide) rfl (List.mem_cons_of_mem _ fl_R_7) xd_R_findImports_153 ?_
        refine aw_aload_n C 0 xd_R_findImports_156 rfl rfl ?_
        refine aw_get C 0 (by decide) rfl rfl (fun w h => List.mem_cons_of_mem _ (xi_R w h)) 6 (by decide) rfl (List.mem_cons_of_mem _ fl_R_28) xd_R_findImports_157 ?_
        refine aw_iload C 4 xd_R_findImports_160 rfl ?_
        obtain ⟨g_162, hm⟩ := aw_grd hm
        refine aw_iald C 7 (by decide) 0 rfl rfl (aw_in_ok g_162) xd_R_findImports_162 ?_
        obtain ⟨g_163, hm⟩ := aw_grd hm
        refine aw_iald C 1 (by decide) 0 rfl rfl (aw_in_ok g_163) xd_R_findImports_163 ?_
        obtain ⟨g_164, hm⟩ := aw_grd hm
        obtain ⟨s_164, h_164, hm⟩ := aw_let hm
        refine aw_iast (σ1 := s_164) (g := upd (s_143 11) (Int32.toNatClampNeg ((60 : Int32) + v2)) (s_143 1 (Int32.toNatClampNeg (s_143 7 (Int32.toNatClampNeg v4))))) C 11 (by decide) 0 rfl rfl (aw_in_ok g_164) rfl h_164 xd_R_findImports_164 ?_
        refine aw_iinc (j := 2) (v := v2 + (1 : Int32)) (L' := [(2, .int (v2 + (1 : Int32))), (0, .ref (ad 0)), (1, .int v1), (3, .int v3), (4, .int v4), (5, .int v5), (6, .int v6)]) C xd_R_findImports_165 rfl rfl (by decide) rfl ?_
        refine aw_iinc (j := 4) (v := v4 + (1 : Int32)) (L' := [(4, .int (v4 + (1 : Int32))), (2, .int (v2 + (1 : Int32))), (0, .ref (ad 0)), (1, .int v1), (3, .int v3), (5, .int v5), (6, .int v6)]) C xd_R_findImports_168 rfl rfl (by decide) rfl ?_
        refine aw_goto (tgt := 25) C xd_R_findImports_171 (by decide) ?_
        refine aw_loc (L' := [(0, .ref (ad 0)), (1, .int v1), (2, .int (v2 + (1 : Int32))), (3, .int v3), (4, .int (v4 + (1 : Int32)))]) C [2, 3, 1, 4, 0] rfl ?_
        exact hc_25 s_164 v1 (v2 + (1 : Int32)) v3 (v4 + (1 : Int32))  hm
      · rw [if_pos c_122] at hm
        refine aw_goto (tgt := 168) C xd_R_findImports_125 (by decide) ?_
        refine aw_iinc (j := 4) (v := v4 + (1 : Int32)) (L' := [(4, .int (v4 + (1 : Int32))), (0, .ref (ad 0)), (1, .int v1), (2, .int v2), (3, .int v3), (5, .int v5), (6, .int v6)]) C xd_R_findImports_168 rfl rfl (by decide) rfl ?_
        refine aw_goto (tgt := 25) C xd_R_findImports_171 (by decide) ?_
        refine aw_loc (L' := [(0, .ref (ad 0)), (1, .int v1), (2, .int v2), (3, .int v3), (4, .int (v4 + (1 : Int32)))]) C [1, 2, 3, 4, 0] rfl ?_
        exact hc_25 σ v1 v2 v3 (v4 + (1 : Int32))  hm
    · rw [if_neg c_88] at hm
      refine aw_aload_n C 0 xd_R_findImports_91 rfl rfl ?_
      refine aw_get C 0 (by decide) rfl rfl (fun w h => List.mem_cons_of_mem _ (xi_R w h)) 9 (by decide) rfl (List.mem_cons_of_mem _ fl_R_37) xd_R_findImports_92 ?_
      refine aw_bipush (v := (60 : Int32)) C xd_R_findImports_95 (by decide) ?_
      refine aw_iload C 6 xd_R_findImports_97 rfl ?_
      refine aw_iadd C xd_R_findImports_99 ?_
      obtain ⟨g_100, hm⟩ := aw_grd hm
      refine aw_iald C 10 (by decide) 0 rfl rfl (aw_in_ok g_100) xd_R_findImports_100 ?_
      refine aw_aload_n C 0 xd_R_findImports_101 rfl rfl ?_
      refine aw_get C 0 (by decide) rfl rfl (fun w h => List.mem_cons_of_mem _ (xi_R w h)) 6 (by decide) rfl (List.mem_cons_of_mem _ fl_R_28) xd_R_findImports_102 ?_
      refine aw_iload C 4 xd_R_findImports_105 rfl ?_
      obtain ⟨g_107, hm⟩ := aw_grd hm
      refine aw_iald C 7 (by decide) 0 rfl rfl (aw_in_ok g_107) xd_R_findImports_107 ?_
      refine aw_icmp_ne (tgt := 114) C xd_R_findImports_108 (by decide) (fun c_108 => ?_) (fun c_108 => ?_)
      · rw [if_neg c_108] at hm
        refine aw_iinc (j := 6) (v := v6 + (1 : Int32)) (L' := [(6, .int (v6 + (1 : Int32))), (0, .ref (ad 0)), (1, .int v1), (2, .int v2), (3, .int v3), (4, .int v4), (5, .int v5)]) C xd_R_findImports_114 rfl rfl (by decide) rfl ?_
        refine aw_goto (tgt := 85) C xd_R_findImports_117 (by decide) ?_
        refine aw_loc (L' := [(0, .ref (ad 0)), (1, .int v1), (2, .int v2), (3, .int v3), (4, .int v4), (5, .int v5), (6, .int (v6 + (1 : Int32)))]) C [1, 2, 3, 4, 5, 6, 0] rfl ?_
        exact ih σ v1 v2 v3 v4 v5 (v6 + (1 : Int32))  hm
      · rw [if_pos c_108] at hm
        refine aw_iconst (v := (0 : Int32)) C xd_R_findImports_111 (by decide) ?_
        refine aw_istore (L' := [(5, .int (0 : Int32)), (0, .ref (ad 0)), (1, .int v1), (2, .int v2), (3, .int v3), (4, .int v4), (6, .int v6)]) C xd_R_findImports_112 (by decide) rfl ?_
        refine aw_iinc (j := 6) (v := v6 + (1 : Int32)) (L' := [(6, .int (v6 + (1 : Int32))), (5, .int (0 : Int32)), (0, .ref (ad 0)), (1, .int v1), (2, .int v2), (3, .int v3), (4, .int v4)]) C xd_R_findImports_114 rfl rfl (by decide) rfl ?_
        refine aw_goto (tgt := 85) C xd_R_findImports_117 (by decide) ?_
        refine aw_loc (L' := [(0, .ref (ad 0)), (1, .int v1), (2, .int v2), (3, .int v3), (4, .int v4), (5, .int (0 : Int32)), (6, .int (v6 + (1 : Int32)))]) C [2, 3, 4, 5, 6, 1, 0] rfl ?_
        exact ih σ v1 v2 v3 v4 (0 : Int32) (v6 + (1 : Int32))  hm
set_option maxHeartbeats 4000000 in
set_option maxRecDepth 100000 in
theorem xl_R_findImports_25 (c_5 : aw_m → Int32 → Int32 → Int32 → Option aw_m) {κ : aw_K} (q : aw_m) (C : aw_X l D (ty_z ids) (zs_T ps) (rm_D (0)) xb_R_findImports 7 "ModuleShelfModel" (xw_R_findImports :: gw_l) none none (rw_w ad ids q) κ) (hc_5 : ∀ (σ : aw_m) (v1 : Int32) (v2 : Int32) (v3 : Int32) , c_5 σ v1 v2 v3 = some q → aw_J κ 0 0 (rw_w ad ids σ) [(0, .ref (ad 0)), (1, .int v1), (2, .int v2), (3, .int v3)] 5 []) : ∀ (n : Nat) (σ : aw_m) (v1 : Int32) (v2 : Int32) (v3 : Int32) (v4 : Int32) , xq_R_findImports_25 c_5 n σ v1 v2 v3 v4 = some q → aw_J κ 0 0 (rw_w ad ids σ) [(0, .ref (ad 0)), (1, .int v1), (2, .int v2), (3, .int v3), (4, .int v4)] 25 [] := by
  intro n
  induction n with
  | zero => intro σ v1 v2 v3 v4 hm; cases hm
  | succ n ih =>
    intro σ v1 v2 v3 v4 hm
    rw [xq_R_findImports_25] at hm
    refine aw_iload C 4 xd_R_findImports_25 rfl ?_
    refine aw_bipush (v := (14 : Int32)) C xd_R_findImports_27 (by decide) ?_
    refine aw_iload_n C 3 xd_R_findImports_29 rfl rfl ?_
    refine aw_imul C xd_R_findImports_30 ?_
    refine aw_aload_n C 0 xd_R_findImports_31 rfl rfl ?_
    refine aw_get C 0 (by decide) rfl rfl (fun w h => List.mem_cons_of_mem _ (xi_R w h)) 4 (by decide) rfl (List.mem_cons_of_mem _ fl_R_22) xd_R_findImports_32 ?_
    refine aw_iload_n C 3 xd_R_findImports_35 rfl rfl ?_
    obtain ⟨g_36, hm⟩ := aw_grd hm
    refine aw_iald C 5 (by decide) 0 rfl rfl (aw_in_ok g_36) xd_R_findImports_36 ?_
    refine aw_iadd C xd_R_findImports_37 ?_
    refine aw_icmp_ge (tgt := 174) C xd_R_findImports_38 (by decide) (fun c_38 => ?_) (fun c_38 => ?_)
    · rw [if_pos c_38] at hm
      refine aw_iinc (j := 3) (v := v3 + (1 : Int32)) (L' := [(3, .int (v3 + (1 : Int32))), (0, .ref (ad 0)), (1, .int v1), (2, .int v2), (4, .int v4)]) C xd_R_findImports_174 rfl rfl (by decide) rfl ?_
      refine aw_goto (tgt := 5) C xd_R_findImports_177 (by decide) ?_
      refine aw_loc (L' := [(0, .ref (ad 0)), (1, .int v1), (2, .int v2), (3, .int (v3 + (1 : Int32)))]) C [1, 2, 3, 0] rfl ?_
      exact hc_5 σ v1 v2 (v3 + (1 : Int32))  hm
    · rw [if_neg c_38] at hm
      refine aw_aload_n C 0 xd_R_findImports_41 rfl rfl ?_
      refine aw_get C 0 (by decide) rfl rfl (fun w h => List.mem_cons_of_mem _ (xi_R w h)) 5 (by decide) rfl (List.mem_cons_of_mem _ fl_R_25) xd_R_findImports_42 ?_
      refine aw_iload C 4 xd_R_findImports_45 rfl ?_
      obtain ⟨g_47, hm⟩ := aw_grd hm
      refine aw_iald C 6 (by decide) 0 rfl rfl (aw_in_ok g_47) xd_R_findImports_47 ?_
      refine aw_iconst (v := (2 : Int32)) C xd_R_findImports_48 (by decide) ?_
      refine aw_icmp_eq (tgt := 64) C xd_R_findImports_49 (by decide) (fun c_49 => ?_) (fun c_49 => ?_)
      · rw [if_pos c_49] at hm
        refine aw_aload_n C 0 xd_R_findImports_64 rfl rfl ?_
        refine aw_get C 0 (by decide) rfl rfl (fun w h => List.mem_cons_of_mem _ (xi_R w h)) 6 (by decide) rfl (List.mem_cons_of_mem _ fl_R_28) xd_R_findImports_65 ?_
        refine aw_iload C 4 xd_R_findImports_68 rfl ?_
        obtain ⟨g_70, hm⟩ := aw_grd hm
        refine aw_iald C 7 (by decide) 0 rfl rfl (aw_in_ok g_70) xd_R_findImports_70 ?_
        refine aw_iload_n C 1 xd_R_findImports_71 rfl rfl ?_
        refine aw_icmp_eq (tgt := 79) C xd_R_findImports_72 (by decide) (fun c_72 => ?_) (fun c_72 => ?_)
        · rw [if_pos c_72] at hm
          refine aw_iconst (v := (0 : Int32)) C xd_R_findImports_79 (by decide) ?_
          refine aw_istore (L' := [(5, .int (0 : Int32)), (0, .ref (ad 0)), (1, .int v1), (2, .int v2), (3, .int v3), (4, .int v4)]) C xd_R_findImports_80 (by decide) rfl ?_
          refine aw_iconst (v := (0 : Int32)) C xd_R_findImports_82 (by decide) ?_
          refine aw_istore (L' := [(6, .int (0 : Int32)), (5, .int (0 : Int32)), (0, .ref (ad 0)), (1, .int v1), (2, .int v2), (3, .int v3), (4, .int v4)]) C xd_R_findImports_83 (by decide) rfl ?_
          refine aw_loc (L' := [(0, .ref (ad 0)), (1, .int v1), (2, .int v2), (3, .int v3), (4, .int v4), (5, .int (0 : Int32)), (6, .int (0 : Int32))]) C [2, 3, 4, 5, 6, 1, 0] rfl ?_
          exact xl_R_findImports_85 c_5 (xq_R_findImports_25 c_5 n) _ C hc_5 ih 64 σ v1 v2 v3 v4 (0 : Int32) (0 : Int32)  hm
        · rw [if_neg c_72] at hm
          refine aw_iconst (v := (1 : Int32)) C xd_R_findImports_75 (by decide) ?_
          refine aw_goto (tgt := 80) C xd_R_findImports_76 (by decide) ?_
          refine aw_istore (L' := [(5, .int (1 : Int32)), (0, .ref (ad 0)), (1, .int v1), (2, .int v2), (3, .int v3), (4, .int v4)]) C xd_R_findImports_80 (by decide) rfl ?_
          refine aw_iconst (v := (0 : Int32)) C xd_R_findImports_82 (by decide) ?_
          refine aw_istore (L' := [(6, .int (0 : Int32)), (5, .int (1 : Int32)), (0, .ref (ad 0)), (1, .int v1), (2, .int v2), (3, .int v3), (4, .int v4)]) C xd_R_findImports_83 (by decide) rfl ?_
          refine aw_loc (L' := [(0, .ref (ad 0)), (1, .int v1), (2, .int v2), (3, .int v3), (4, .int v4), (5, .int (1 : Int32)), (6, .int (0 : Int32))]) C [2, 3, 4, 5, 6, 1, 0] rfl ?_
          exact xl_R_findImports_85 c_5 (xq_R_findImports_25 c_5 n) _ C hc_5 ih 64 σ v1 v2 v3 v4 (1 : Int32) (0 : Int32)  hm
      · rw [if_neg c_49] at hm
        refine aw_aload_n C 0 xd_R_findImports_52 rfl rfl ?_
        refine aw_get C 0 (by decide) rfl rfl (fun w h => List.mem_cons_of_mem _ (xi_R w h)) 5 (by decide) rfl (List.mem_cons_of_mem _ fl_R_25) xd_R_findImports_53 ?_
        refine aw_iload C 4 xd_R_findImports_56 rfl ?_
        obtain ⟨g_58, hm⟩ := aw_grd hm
        refine aw_iald C 6 (by decide) 0 rfl rfl (aw_in_ok g_58) xd_R_findImports_58 ?_
        refine aw_bipush (v := (11 : Int32)) C xd_R_findImports_59 (by decide) ?_
        refine aw_icmp_ne (tgt := 79) C xd_R_findImports_61 (by decide) (fun c_61 => ?_) (fun c_61 => ?_)
        · rw [if_neg c_61] at hm
          refine aw_iconst (v := (0 : Int32)) C xd_R_findImports_79 (by decide) ?_
          refine aw_istore (L' := [(5, .int (0 : Int32)), (0, .ref (ad 0)), (1, .int v1), (2, .int v2), (3, .int v3), (4, .int v4)]) C xd_R_findImports_80 (by decide) rfl ?_
          refine aw_iconst (v := (0 : Int32)) C xd_R_findImports_82 (by decide) ?_
          refine aw_istore (L' := [(6, .int (0 : Int32)), (5, .int (0 : Int32)), (0, .ref (ad 0)), (1, .int v1), (2, .int v2), (3, .int v3), (4, .int v4)]) C xd_R_findImports_83 (by decide) rfl ?_
          refine aw_loc (L' := [(0, .ref (ad 0)), (1, .int v1), (2, .int v2), (3, .int v3), (4, .int v4), (5, .int (0 : Int32)), (6, .int (0 : Int32))]) C [2, 3, 4, 5, 6, 1, 0] rfl ?_
          exact xl_R_findImports_85 c_5 (xq_R_findImports_25 c_5 n) _ C hc_5 ih 64 σ v1 v2 v3 v4 (0 : Int32) (0 : Int32)  hm
        · rw [if_pos c_61] at hm
          refine aw_aload_n C 0 xd_R_findImports_64 rfl rfl ?_
          refine aw_get C 0 (by decide) rfl rfl (fun w h => List.mem_cons_of_mem _ (xi_R w h)) 6 (by decide) rfl (List.mem_cons_of_mem _ fl_R_28) xd_R_findImports_65 ?_
          refine aw_iload C 4 xd_R_findImports_68 rfl ?_
          obtain ⟨g_70, hm⟩ := aw_grd hm
          refine aw_iald C 7 (by decide) 0 rfl rfl (aw_in_ok g_70) xd_R_findImports_70 ?_
          refine aw_iload_n C 1 xd_R_findImports_71 rfl rfl ?_
          refine aw_icmp_eq (tgt := 79) C xd_R_findImports_72 (by decide) (fun c_72 => ?_) (fun c_72 => ?_)
          · rw [if_pos c_72] at hm
            refine aw_iconst (v := (0 : Int32)) C xd_R_findImports_79 (by decide) ?_
            refine aw_istore (L' := [(5, .int (0 : Int32)), (0, .ref (ad 0)), (1, .int v1), (2, .int v2), (3, .int v3), (4, .int v4)]) C xd_R_findImports_80 (by decide) rfl ?_
            refine aw_iconst (v := (0 : Int32)) C xd_R_findImports_82 (by decide) ?_
            refine aw_istore (L' := [(6, .int (0 : Int32)), (5, .int (0 : Int32)), (0, .ref (ad 0)), (1, .int v1), (2, .int v2), (3, .int v3), (4, .int v4)]) C xd_R_findImports_83 (by decide) rfl ?_
            refine aw_loc (L' := [(0, .ref (ad 0)), (1, .int v1), (2, .int v2), (3, .int v3), (4, .int v4), (5, .int (0 : Int32)), (6, .int (0 : Int32))]) C [2, 3, 4, 5, 6, 1, 0] rfl ?_
            exact xl_R_findImports_85 c_5 (xq_R_findImports_25 c_5 n) _ C hc_5 ih 64 σ v1 v2 v3 v4 (0 : Int32) (0 : Int32)  hm
          · rw [if_neg c_72] at hm
            refine aw_iconst (v := (1 : Int32)) C xd_R_findImports_75 (by decide) ?_
            refine aw_goto (tgt := 80) C xd_R_findImports_76 (by decide) ?_
            refine aw_istore (L' := [(5, .int (1 : Int32)), (0, .ref (ad 0)), (1, .int v1), (2, .int v2), (3, .int v3), (4, .int v4)]) C xd_R_findImports_80 (by decide) rfl ?_
            refine aw_iconst (v := (0 : Int32)) C xd_R_findImports_82 (by decide) ?_
            refine aw_istore (L' := [(6, .int (0 : Int32)), (5, .int (1 : Int32)), (0, .ref (ad 0)), (1, .int v1), (2, .int v2), (3, .int v3), (4, .int v4)]) C xd_R_findImports_83 (by decide) rfl ?_
            refine aw_loc (L' := [(0, .ref (ad 0)), (1, .int v1), (2, .int v2), (3, .int v3), (4, .int v4), (5, .int (1 : Int32)), (6, .int (0 : Int32))]) C [2, 3, 4, 5, 6, 1, 0] rfl ?_
            exact xl_R_findImports_85 c_5 (xq_R_findImports_25 c_5 n) _ C hc_5 ih 64 σ v1 v2 v3 v4 (1 : Int32) (0 : Int32)  hm
set_option maxHeartbeats 4000000 in
set_option maxRecDepth 100000 in
theorem xl_R_findImports_5  {κ : aw_K} (q : aw_m) (C : aw_X l D (ty_z ids) (zs_T ps) (rm_D (0)) xb_R_findImports 7 "ModuleShelfModel" (xw_R_findImports :: gw_l) none none (rw_w ad ids q) κ) : ∀ (n : Nat) (σ : aw_m) (v1 : Int32) (v2 : Int32) (v3 : Int32) , xq_R_findImports_5 n σ v1 v2 v3 = some q → aw_J κ 0 0 (rw_w ad ids σ) [(0, .ref (ad 0)), (1, .int v1), (2, .int v2), (3, .int v3)] 5 [] := by
  intro n
  induction n with
  | zero => intro σ v1 v2 v3 hm; cases hm
  | succ n ih =>
    intro σ v1 v2 v3 hm
    rw [xq_R_findImports_5] at hm
    refine aw_iload_n C 3 xd_R_findImports_5 rfl rfl ?_
    refine aw_bipush (v := (36 : Int32)) C xd_R_findImports_6 (by decide) ?_
    refine aw_aload_n C 0 xd_R_findImports_8 rfl rfl ?_
    refine aw_get C 0 (by decide) rfl rfl (fun w h => List.mem_cons_of_mem _ (xi_R w h)) 2 (by decide) rfl (List.mem_cons_of_mem _ fl_R_16) xd_R_findImports_9 ?_
    refine aw_bipush (v := (12 : Int32)) C xd_R_findImports_12 (by decide) ?_
    refine aw_iald C 3 (by decide) 0 rfl rfl (aw_in_ok rfl) xd_R_findImports_14 ?_
    refine aw_iadd C xd_R_findImports_15 ?_
    refine aw_icmp_ge (tgt := 180) C xd_R_findImports_16 (by decide) (fun c_16 => ?_) (fun c_16 => ?_)
    · rw [if_pos c_16] at hm
      refine aw_aload_n C 0 xd_R_findImports_180 rfl rfl ?_
      refine aw_get C 0 (by decide) rfl rfl (fun w h => List.mem_cons_of_mem _ (xi_R w h)) 8 (by decide) rfl (List.mem_cons_of_mem _ fl_R_34) xd_R_findImports_181 ?_
      refine aw_bipush (v := (12 : Int32)) C xd_R_findImports_184 (by decide) ?_
      refine aw_iload_n C 2 xd_R_findImports_186 rfl rfl ?_
      obtain ⟨s_187, h_187, hm⟩ := aw_let hm
      refine aw_iast (σ1 := s_187) (g := upd (σ 9) (Int32.toNatClampNeg (12 : Int32)) v2) C 9 (by decide) 0 rfl rfl (aw_in_ok rfl) rfl h_187 xd_R_findImports_187 ?_
      cases hm
      exact aw_vret C xd_R_findImports_188
    · rw [if_neg c_16] at hm
      refine aw_bipush (v := (14 : Int32)) C xd_R_findImports_19 (by decide) ?_
      refine aw_iload_n C 3 xd_R_findImports_21 rfl rfl ?_
      refine aw_imul C xd_R_findImports_22 ?_
      refine aw_istore (L' := [(4, .int ((14 : Int32) * v3)), (0, .ref (ad 0)), (1, .int v1), (2, .int v2), (3, .int v3)]) C xd_R_findImports_23 (by decide) rfl ?_
      refine aw_loc (L' := [(0, .ref (ad 0)), (1, .int v1), (2, .int v2), (3, .int v3), (4, .int ((14 : Int32) * v3))]) C [1, 2, 3, 4, 0] rfl ?_
      exact xl_R_findImports_25 (xq_R_findImports_5 n) _ C ih 64 σ v1 v2 v3 ((14 : Int32) * v3)  hm
set_option maxHeartbeats 4000000 in
set_option maxRecDepth 100000 in
theorem xc_R_findImports (σ : aw_m) (a1 : Int32) (q : aw_m)  (hm : xm_R_findImports σ a1 = some q) : aw_M l D (ty_z ids) (zs_T ps) xy_R_findImports (xw_R_findImports :: gw_l) (rm_D (0)) [.ref (ad 0), .int a1] (rw_w ad ids σ) none (rw_w ad ids q) := by
  refine aw_intro (cc := xb_R_findImports) (n := 7) (ret := none) "ModuleShelfModel" rfl (by decide) rfl (Nat.le_of_ble_eq_true rfl) ?_
  intro κ C
  unfold xm_R_findImports at hm
  refine aw_iconst (v := (0 : Int32)) C xd_R_findImports_0 (by decide) ?_
  refine aw_istore_n (L' := [(2, .int (0 : Int32)), (0, .ref (ad 0)), (1, .int a1)]) C xd_R_findImports_1 rfl (by decide) rfl ?_
  refine aw_bipush (v := (36 : Int32)) C xd_R_findImports_2 (by decide) ?_
  refine aw_istore_n (L' := [(3, .int (36 : Int32)), (2, .int (0 : Int32)), (0, .ref (ad 0)), (1, .int a1)]) C xd_R_findImports_4 rfl (by decide) rfl ?_
  refine aw_loc (L' := [(0, .ref (ad 0)), (1, .int a1), (2, .int (0 : Int32)), (3, .int (36 : Int32))]) C [2, 3, 1, 0] rfl ?_
  exact xl_R_findImports_5 _ C 64 σ a1 (0 : Int32) (36 : Int32)  hm
def xq_R_compile_18  : Nat → aw_m → Int32 → Int32 → Option (Int32 × aw_m)
  | 0, _, _, _ => none
  | n + 1, σ, v1, v2 => (if σ 3 (Int32.toNatClampNeg (12 : Int32)) ≤ v2 then (xm_R_findImports σ v1).bind fun q_67 => (xm_R_alike q_67 v1).bind fun q_72 => (if q_72 = 0 then aw_l (aw_p q_67 0 12 ((q_67 0 12) + (1 : Int32))) fun s_85 => if aw_in v1 13 = true then aw_l (aw_p s_85 1 (Int32.toNatClampNeg v1) (s_85 0 12)) fun s_97 => (xm_R_copy s_97 (12 : Int32) v1).bind fun q_102 => if aw_in v1 13 = true then some (q_102 1 (Int32.toNatClampNeg v1), q_102) else none else none else (xm_R_copy q_67 (12 : Int32) v1).bind fun q_102 => if aw_in v1 13 = true then some (q_102 1 (Int32.toNatClampNeg v1), q_102) else none) else (xm_R_firstWrong σ ((36 : Int32) + v2) v1).bind fun q_35 => (if 0 ≤ q_35.1 then aw_l (aw_p q_35.2 0 13 (((16 : Int32) * v2) + q_35.1)) fun s_53 => some ((-3 : Int32), s_53) else xq_R_compile_18 n q_35.2 v1 (v2 + (1 : Int32))))
def xm_R_compile (σ : aw_m) (a1 : Int32) : Option (Int32 × aw_m) := aw_l (aw_p σ 0 13 (-1 : Int32)) fun s_2 => (xm_R_in s_2 a1 (0 : Int32) (5 : Int32)).bind fun q_8 => (if q_8 = 0 then some ((-1 : Int32), s_2) else xq_R_compile_18 64 s_2 a1 (0 : Int32))
set_option maxHeartbeats 4000000 in
set_option maxRecDepth 100000 in
theorem xl_R_compile_18  {κ : aw_K} (q : Int32 × aw_m) (C : aw_X l D (ty_z ids) (zs_T ps) (rm_D (4)) xb_R_compile 4 "ModuleShelfModel" (xw_R_compile :: gw_l) (some .int) (some (.int q.1)) (rw_w ad ids q.2) κ) : ∀ (n : Nat) (σ : aw_m) (v1 : Int32) (v2 : Int32) , xq_R_compile_18 n σ v1 v2 = some q → aw_J κ 0 0 (rw_w ad ids σ) [(0, .ref (ad 0)), (1, .int v1), (2, .int v2)] 18 [] := by
  intro n
  induction n with
  | zero => intro σ v1 v2 hm; cases hm
  | succ n ih =>
    intro σ v1 v2 hm
    rw [xq_R_compile_18] at hm
    refine aw_iload_n C 2 xd_R_compile_18 rfl rfl ?_
    refine aw_aload_n C 0 xd_R_compile_19 rfl rfl ?_
    refine aw_get C 0 (by decide) rfl rfl (fun w h => List.mem_cons_of_mem _ (xi_R w h)) 2 (by decide) rfl (List.mem_cons_of_mem _ fl_R_16) xd_R_compile_20 ?_
    refine aw_bipush (v := (12 : Int32)) C xd_R_compile_23 (by decide) ?_
    refine aw_iald C 3 (by decide) 0 rfl rfl (aw_in_ok rfl) xd_R_compile_25 ?_
    refine aw_icmp_ge (tgt := 65) C xd_R_compile_26 (by decide) (fun c_26 => ?_) (fun c_26 => ?_)
    · rw [if_pos c_26] at hm
      refine aw_aload_n C 0 xd_R_compile_65 rfl rfl ?_
      refine aw_iload_n C 1 xd_R_compile_66 rfl rfl ?_
      obtain ⟨q_67, e_67, hm⟩ := aw_bnd hm
      refine aw_callVv (As := [.int v1]) (rest := []) (b := ad 0) C (xc_R_findImports σ v1 _  e_67) rfl (gw_sub (gw_V xg_R_findImports ml_R_98 im_R_findImports se_R_findImports wi_R)) na_R_findImports (rm_lt (by decide) (by decide)) ⟨Nat.zero_le _, Nat.zero_le _⟩ 0 at_R rfl rfl (Nat.le_of_ble_eq_true rfl) xd_R_compile_67 ?_
      refine aw_aload_n C 0 xd_R_compile_70 rfl rfl ?_
      refine aw_iload_n C 1 xd_R_compile_71 rfl rfl ?_
      obtain ⟨q_72, e_72, hm⟩ := aw_bnd hm
      refine aw_callVi (As := [.int v1]) (rest := []) (b := ad 0) C (xc_R_alike q_67 v1 _  e_72) rfl (gw_sub (gw_V xg_R_alike ml_R_102 im_R_alike se_R_alike wi_R)) na_R_alike (rm_lt (by decide) (by decide)) ⟨Nat.zero_le _, Nat.zero_le _⟩ 0 at_R rfl rfl (Nat.le_of_ble_eq_true rfl) xd_R_compile_72 ?_
      refine aw_if_ne (tgt := 98) C xd_R_compile_75 (by decide) (fun c_75 => ?_) (fun c_75 => ?_)
      · rw [if_neg c_75] at hm
        refine aw_aload_n C 0 xd_R_compile_98 rfl rfl ?_
        refine aw_bipush (v := (12 : Int32)) C xd_R_compile_99 (by decide) ?_
        refine aw_iload_n C 1 xd_R_compile_101 rfl rfl ?_
        obtain ⟨q_102, e_102, hm⟩ := aw_bnd hm
        refine aw_callVv (As := [.int (12 : Int32), .int v1]) (rest := []) (b := ad 0) C (xc_R_copy q_67 (12 : Int32) v1 _  e_102) rfl (gw_sub (gw_V xg_R_copy ml_R_109 im_R_copy se_R_copy wi_R)) na_R_copy (rm_lt (by decide) (by decide)) ⟨Nat.zero_le _, Nat.zero_le _⟩ 0 at_R rfl rfl (Nat.le_of_ble_eq_true rfl) xd_R_compile_102 ?_
        refine aw_aload_n C 0 xd_R_compile_105 rfl rfl ?_
        refine aw_get C 0 (by decide) rfl rfl (fun w h => List.mem_cons_of_mem _ (xi_R w h)) 0 (by decide) rfl (List.mem_cons_of_mem _ fl_R_7) xd_R_compile_106 ?_
        refine aw_iload_n C 1 xd_R_compile_109 rfl rfl ?_
        obtain ⟨g_110, hm⟩ := aw_grd hm
        refine aw_iald C 1 (by decide) 0 rfl rfl (aw_in_ok g_110) xd_R_compile_110 ?_
        cases hm
        exact aw_iret C xd_R_compile_111
      · rw [if_pos c_75] at hm
        refine aw_aload_n C 0 xd_R_compile_78 rfl rfl ?_
        refine aw_dup C xd_R_compile_79 rfl ?_
        refine aw_get C 0 (by decide) rfl rfl (fun w h => List.mem_cons_of_mem _ (xi_R w h)) 12 (by decide) rfl (List.mem_cons_of_mem _ fl_R_106) xd_R_compile_80 ?_
        refine aw_iconst (v := (1 : Int32)) C xd_R_compile_83 (by decide) ?_
        refine aw_iadd C xd_R_compile_84 ?_
        obtain ⟨s_85, h_85, hm⟩ := aw_let hm
        refine aw_put (σ1 := s_85) (f := upd (q_67 0) 12 ((q_67 0 12) + (1 : Int32))) C 0 (by decide) rfl rfl (fun w h => List.mem_cons_of_mem _ (xi_R w h)) xk_R xo_R xn_R 12 (by decide) (List.mem_cons_of_mem _ fl_R_106) rfl (ty := .int) (by decide +kernel) rfl rfl (Nat.le_of_ble_eq_true rfl) rfl h_85 xd_R_compile_85 ?_
        refine aw_aload_n C 0 xd_R_compile_88 rfl rfl ?_
        refine aw_get C 0 (by decide) rfl rfl (fun w h => List.mem_cons_of_mem _ (xi_R w h)) 0 (by decide) rfl (List.mem_cons_of_mem _ fl_R_7) xd_R_compile_89 ?_
        refine aw_iload_n C 1 xd_R_compile_92 rfl rfl ?_
        refine aw_aload_n C 0 xd_R_compile_93 rfl rfl ?_
        refine aw_get C 0 (by decide) rfl rfl (fun w h => List.mem_cons_of_mem _ (xi_R w h)) 12 (by decide) rfl (List.mem_cons_of_mem _ fl_R_106) xd_R_compile_94 ?_
        obtain ⟨g_97, hm⟩ := aw_grd hm
        obtain ⟨s_97, h_97, hm⟩ := aw_let hm
        refine aw_iast (σ1 := s_97) (g := upd (s_85 1) (Int32.toNatClampNeg v1) (s_85 0 12)) C 1 (by decide) 0 rfl rfl (aw_in_ok g_97) rfl h_97 xd_R_compile_97 ?_
        refine aw_aload_n C 0 xd_R_compile_98 rfl rfl ?_
        refine aw_bipush (v := (12 : Int32)) C xd_R_compile_99 (by decide) ?_
        refine aw_iload_n C 1 xd_R_compile_101 rfl rfl ?_
        obtain ⟨q_102, e_102, hm⟩ := aw_bnd hm
        refine aw_callVv (As := [.int (12 : Int32), .int v1]) (rest := []) (b := ad 0) C (xc_R_copy s_97 (12 : Int32) v1 _  e_102) rfl (gw_sub (gw_V xg_R_copy ml_R_109 im_R_copy se_R_copy wi_R)) na_R_copy (rm_lt (by decide) (by decide)) ⟨Nat.zero_le _, Nat.zero_le _⟩ 0 at_R rfl rfl (Nat.le_of_ble_eq_true rfl) xd_R_compile_102 ?_
        refine aw_aload_n C 0 xd_R_compile_105 rfl rfl ?_
        refine aw_get C 0 (by decide) rfl rfl (fun w h => List.mem_cons_of_mem _ (xi_R w h)) 0 (by decide) rfl (List.mem_cons_of_mem _ fl_R_7) xd_R_compile_106 ?_
        refine aw_iload_n C 1 xd_R_compile_109 rfl rfl ?_
        obtain ⟨g_110, hm⟩ := aw_grd hm
        refine aw_iald C 1 (by decide) 0 rfl rfl (aw_in_ok g_110) xd_R_compile_110 ?_
        cases hm
        exact aw_iret C xd_R_compile_111
    · rw [if_neg c_26] at hm
      refine aw_aload_n C 0 xd_R_compile_29 rfl rfl ?_
      refine aw_bipush (v := (36 : Int32)) C xd_R_compile_30 (by decide) ?_
      refine aw_iload_n C 2 xd_R_compile_32 rfl rfl ?_
      refine aw_iadd C xd_R_compile_33 ?_
      refine aw_iload_n C 1 xd_R_compile_34 rfl rfl ?_
      obtain ⟨q_35, e_35, hm⟩ := aw_bnd hm
      refine aw_callVi (As := [.int ((36 : Int32) + v2), .int v1]) (rest := []) (b := ad 0) C (xc_R_firstWrong σ ((36 : Int32) + v2) v1 _  e_35) rfl (gw_sub (gw_V xg_R_firstWrong ml_R_95 im_R_firstWrong se_R_firstWrong wi_R)) na_R_firstWrong (rm_lt (by decide) (by decide)) ⟨Nat.zero_le _, Nat.zero_le _⟩ 0 at_R rfl rfl (Nat.le_of_ble_eq_true rfl) xd_R_compile_35 ?_
      refine aw_istore_n (L' := [(3, .int q_35.1), (0, .ref (ad 0)), (1, .int v1), (2, .int v2)]) C xd_R_compile_38 rfl (by decide) rfl ?_
      refine aw_iload_n C 0 xd_R_compile_39 rfl rfl ?_
      refine aw_if_ge (tgt := 46) C xd_R_compile_40 (by decide) (fun c_40 => ?_) (fun c_40 => ?_)
      · rw [if_pos c_40] at hm
        refine aw_aload_n C 1 xd_R_compile_46 rfl rfl ?_
        refine aw_bipush (v := (16 : Int32)) C xd_R_compile_47 (by decide) ?_
        refine aw_iload_n C 3 xd_R_compile_49 rfl rfl ?_
        refine aw_imul C xd_R_compile_50 ?_
        refine aw_iload_n C 0 xd_R_compile_51 rfl rfl ?_
        refine aw_iadd C xd_R_compile_52 ?_
        obtain ⟨s_53, h_53, hm⟩ := aw_let hm
        refine aw_put (σ1 := s_53) (f := upd (q_35.2 0) 13 (((16 : Int32) * v2) + q_35.1)) C 0 (by decide) rfl rfl (fun w h => List.mem_cons_of_mem _ (xi_R w h)) xk_R xo_R xn_R 13 (by decide) (List.mem_cons_of_mem _ fl_R_46) rfl (ty := .int) (by decide +kernel) rfl rfl (Nat.le_of_ble_eq_true rfl) rfl h_53 xd_R_compile_53 ?_
        refine aw_bipush (v := (-3 : Int32)) C xd_R_compile_56 (by decide) ?_
        cases hm
        exact aw_iret C xd_R_compile_58
      · rw [if_neg c_40] at hm
        refine aw_goto (tgt := 59) C xd_R_compile_43 (by decide) ?_
        refine aw_iinc (j := 3) (v := v2 + (1 : Int32)) (L' := [(2, .int (v2 + (1 : Int32))), (3, .int q_35.1), (0, .ref (ad 0)), (1, .int v1)]) C xd_R_compile_59 rfl rfl (by decide) rfl ?_
        refine aw_goto (tgt := 18) C xd_R_compile_62 (by decide) ?_
        refine aw_loc (L' := [(0, .ref (ad 0)), (1, .int v1), (2, .int (v2 + (1 : Int32)))]) C [2, 3, 0] rfl ?_
        exact ih q_35.2 v1 (v2 + (1 : Int32))  hm
set_option maxHeartbeats 4000000 in
set_option maxRecDepth 100000 in
theorem xc_R_compile (σ : aw_m) (a1 : Int32) (q : Int32 × aw_m)  (hm : xm_R_compile σ a1 = some q) : aw_M l D (ty_z ids) (zs_T ps) xy_R_compile (xw_R_compile :: gw_l) (rm_D (4)) [.ref (ad 0), .int a1] (rw_w ad ids σ) (some (.int q.1)) (rw_w ad ids q.2) := by
  refine aw_intro (cc := xb_R_compile) (n := 4) (ret := (some .int)) "ModuleShelfModel" rfl (by decide) rfl (Nat.le_of_ble_eq_true rfl) ?_
  intro κ C
  unfold xm_R_compile at hm
  refine aw_aload_n C 0 xd_R_compile_0 rfl rfl ?_
  refine aw_iconst (v := (-1 : Int32)) C xd_R_compile_1 (by decide) ?_
  obtain ⟨s_2, h_2, hm⟩ := aw_let hm
  refine aw_put (σ1 := s_2) (f := upd (σ 0) 13 (-1 : Int32)) C 0 (by decide) rfl rfl (fun w h => List.mem_cons_of_mem _ (xi_R w h)) xk_R xo_R xn_R 13 (by decide) (List.mem_cons_of_mem _ fl_R_46) rfl (ty := .int) (by decide +kernel) rfl rfl (Nat.le_of_ble_eq_true rfl) rfl h_2 xd_R_compile_2 ?_
  refine aw_iload_n C 1 xd_R_compile_5 rfl rfl ?_
  refine aw_iconst (v := (0 : Int32)) C xd_R_compile_6 (by decide) ?_
  refine aw_iconst (v := (5 : Int32)) C xd_R_compile_7 (by decide) ?_
  obtain ⟨q_8, e_8, hm⟩ := aw_bnd hm
  refine aw_callSi (As := [.int a1, .int (0 : Int32), .int (5 : Int32)]) (rest := []) C (xc_R_in s_2 a1 (0 : Int32) (5 : Int32) _  e_8) rfl (gw_sub (gw_S xg_R_in ml_R_83 st_R_in wi_R)) na_R_in (rm_lt (by decide) (by decide)) ⟨Nat.zero_le _, Nat.zero_le _⟩ rfl (Nat.le_of_ble_eq_true rfl) xd_R_compile_8 ?_
  refine aw_if_ne (tgt := 16) C xd_R_compile_11 (by decide) (fun c_11 => ?_) (fun c_11 => ?_)
  · rw [if_neg c_11] at hm
    refine aw_iconst (v := (0 : Int32)) C xd_R_compile_16 (by decide) ?_
    refine aw_istore_n (L' := [(2, .int (0 : Int32)), (0, .ref (ad 0)), (1, .int a1)]) C xd_R_compile_17 rfl (by decide) rfl ?_
    refine aw_loc (L' := [(0, .ref (ad 0)), (1, .int a1), (2, .int (0 : Int32))]) C [1, 2, 0] rfl ?_
    exact xl_R_compile_18 _ C 64 s_2 a1 (0 : Int32)  hm
  · rw [if_pos c_11] at hm
    refine aw_iconst (v := (-1 : Int32)) C xd_R_compile_14 (by decide) ?_
    cases hm
    exact aw_iret C xd_R_compile_15
def xm_R_place (σ : aw_m)  : Option Int32 := some (σ 0 13)
set_option maxHeartbeats 4000000 in
set_option maxRecDepth 100000 in
theorem xc_R_place (σ : aw_m)  (q : Int32)  (hm : xm_R_place σ  = some q) : aw_M l D (ty_z ids) (zs_T ps) xy_R_place (xw_R_place :: gw_l) (rm_D (0)) [.ref (ad 0)] (rw_w ad ids σ) (some (.int q)) (rw_w ad ids σ) := by
  refine aw_intro (cc := xb_R_place) (n := 1) (ret := (some .int)) "ModuleShelfModel" rfl (by decide) rfl (Nat.le_of_ble_eq_true rfl) ?_
  intro κ C
  unfold xm_R_place at hm
  refine aw_aload_n C 0 xd_R_place_0 rfl rfl ?_
  refine aw_get C 0 (by decide) rfl rfl (fun w h => List.mem_cons_of_mem _ (xi_R w h)) 13 (by decide) rfl (List.mem_cons_of_mem _ fl_R_46) xd_R_place_1 ?_
  cases hm
  exact aw_iret C xd_R_place_4
def xm_R_remove (σ : aw_m) (a1 : Int32) : Option (Int32 × aw_m) := (xm_R_in σ a1 (0 : Int32) (5 : Int32)).bind fun q_3 => (if q_3 = 0 then some ((-1 : Int32), σ) else if aw_in a1 13 = true then (if σ 1 (Int32.toNatClampNeg a1) = 0 then some ((-1 : Int32), σ) else if aw_in a1 13 = true then aw_l (aw_p σ 1 (Int32.toNatClampNeg a1) (0 : Int32)) fun s_26 => some ((0 : Int32), s_26) else none) else none)
set_option maxHeartbeats 4000000 in
set_option maxRecDepth 100000 in
theorem xc_R_remove (σ : aw_m) (a1 : Int32) (q : Int32 × aw_m)  (hm : xm_R_remove σ a1 = some q) : aw_M l D (ty_z ids) (zs_T ps) xy_R_remove (xw_R_remove :: gw_l) (rm_D (1)) [.ref (ad 0), .int a1] (rw_w ad ids σ) (some (.int q.1)) (rw_w ad ids q.2) := by
  refine aw_intro (cc := xb_R_remove) (n := 2) (ret := (some .int)) "ModuleShelfModel" rfl (by decide) rfl (Nat.le_of_ble_eq_true rfl) ?_
  intro κ C
  unfold xm_R_remove at hm
  refine aw_iload_n C 1 xd_R_remove_0 rfl rfl ?_
  refine aw_iconst (v := (0 : Int32)) C xd_R_remove_1 (by decide) ?_
  refine aw_iconst (v := (5 : Int32)) C xd_R_remove_2 (by decide) ?_
  obtain ⟨q_3, e_3, hm⟩ := aw_bnd hm
  refine aw_callSi (As := [.int a1, .int (0 : Int32), .int (5 : Int32)]) (rest := []) C (xc_R_in σ a1 (0 : Int32) (5 : Int32) _  e_3) rfl (gw_sub (gw_S xg_R_in ml_R_83 st_R_in wi_R)) na_R_in (rm_lt (by decide) (by decide)) ⟨Nat.zero_le _, Nat.zero_le _⟩ rfl (Nat.le_of_ble_eq_true rfl) xd_R_remove_3 ?_
  refine aw_if_eq (tgt := 18) C xd_R_remove_6 (by decide) (fun c_6 => ?_) (fun c_6 => ?_)
  · rw [if_pos c_6] at hm
    refine aw_iconst (v := (-1 : Int32)) C xd_R_remove_18 (by decide) ?_
    cases hm
    exact aw_iret C xd_R_remove_19
  · rw [if_neg c_6] at hm
    refine aw_aload_n C 0 xd_R_remove_9 rfl rfl ?_
    refine aw_get C 0 (by decide) rfl rfl (fun w h => List.mem_cons_of_mem _ (xi_R w h)) 0 (by decide) rfl (List.mem_cons_of_mem _ fl_R_7) xd_R_remove_10 ?_
    refine aw_iload_n C 1 xd_R_remove_13 rfl rfl ?_
    obtain ⟨g_14, hm⟩ := aw_grd hm
    refine aw_iald C 1 (by decide) 0 rfl rfl (aw_in_ok g_14) xd_R_remove_14 ?_
    refine aw_if_ne (tgt := 20) C xd_R_remove_15 (by decide) (fun c_15 => ?_) (fun c_15 => ?_)
    · rw [if_neg c_15] at hm
      refine aw_aload_n C 0 xd_R_remove_20 rfl rfl ?_
      refine aw_get C 0 (by decide) rfl rfl (fun w h => List.mem_cons_of_mem _ (xi_R w h)) 0 (by decide) rfl (List.mem_cons_of_mem _ fl_R_7) xd_R_remove_21 ?_
      refine aw_iload_n C 1 xd_R_remove_24 rfl rfl ?_
      refine aw_iconst (v := (0 : Int32)) C xd_R_remove_25 (by decide) ?_
      obtain ⟨g_26, hm⟩ := aw_grd hm
      obtain ⟨s_26, h_26, hm⟩ := aw_let hm
      refine aw_iast (σ1 := s_26) (g := upd (σ 1) (Int32.toNatClampNeg a1) (0 : Int32)) C 1 (by decide) 0 rfl rfl (aw_in_ok g_26) rfl h_26 xd_R_remove_26 ?_
      refine aw_iconst (v := (0 : Int32)) C xd_R_remove_27 (by decide) ?_
      cases hm
      exact aw_iret C xd_R_remove_28
    · rw [if_pos c_15] at hm
      refine aw_iconst (v := (-1 : Int32)) C xd_R_remove_18 (by decide) ?_
      cases hm
      exact aw_iret C xd_R_remove_19
def xq_R_cells_9 (σ : aw_m)  : Nat → Int32 → Int32 → Int32 → Option Int32
  | 0, _, _, _ => none
  | n + 1, v1, v2, v3 => if aw_in v1 13 = true then (if σ 3 (Int32.toNatClampNeg v1) ≤ v3 then some v2 else if aw_in (((3 : Int32) * v1) + v3) 39 = true then xq_R_cells_9 σ n v1 (v2 + (σ 5 (Int32.toNatClampNeg (((3 : Int32) * v1) + v3)))) (v3 + (1 : Int32)) else none) else none
def xm_R_cells (σ : aw_m) (a1 : Int32) : Option Int32 := if aw_in a1 13 = true then xq_R_cells_9 σ 64 a1 (σ 2 (Int32.toNatClampNeg a1)) (0 : Int32) else none
set_option maxHeartbeats 4000000 in
set_option maxRecDepth 100000 in
theorem xl_R_cells_9 (σ : aw_m)  {κ : aw_K} (q : Int32) (C : aw_X l D (ty_z ids) (zs_T ps) (rm_D (0)) xb_R_cells 4 "ModuleShelfModel" (xw_R_cells :: gw_l) (some .int) (some (.int q)) (rw_w ad ids σ) κ) : ∀ (n : Nat) (v1 : Int32) (v2 : Int32) (v3 : Int32) , xq_R_cells_9 σ n v1 v2 v3 = some q → aw_J κ 0 0 (rw_w ad ids σ) [(0, .ref (ad 0)), (1, .int v1), (2, .int v2), (3, .int v3)] 9 [] := by
  intro n
  induction n with
  | zero => intro v1 v2 v3 hm; cases hm
  | succ n ih =>
    intro v1 v2 v3 hm
    rw [xq_R_cells_9] at hm
    refine aw_iload_n C 3 xd_R_cells_9 rfl rfl ?_
    refine aw_aload_n C 0 xd_R_cells_10 rfl rfl ?_
    refine aw_get C 0 (by decide) rfl rfl (fun w h => List.mem_cons_of_mem _ (xi_R w h)) 2 (by decide) rfl (List.mem_cons_of_mem _ fl_R_16) xd_R_cells_11 ?_
    refine aw_iload_n C 1 xd_R_cells_14 rfl rfl ?_
    obtain ⟨g_15, hm⟩ := aw_grd hm
    refine aw_iald C 3 (by decide) 0 rfl rfl (aw_in_ok g_15) xd_R_cells_15 ?_
    refine aw_icmp_ge (tgt := 38) C xd_R_cells_16 (by decide) (fun c_16 => ?_) (fun c_16 => ?_)
    · rw [if_pos c_16] at hm
      refine aw_iload_n C 2 xd_R_cells_38 rfl rfl ?_
      cases hm
      exact aw_iret C xd_R_cells_39
    · rw [if_neg c_16] at hm
      refine aw_iload_n C 2 xd_R_cells_19 rfl rfl ?_
      refine aw_aload_n C 0 xd_R_cells_20 rfl rfl ?_
      refine aw_get C 0 (by decide) rfl rfl (fun w h => List.mem_cons_of_mem _ (xi_R w h)) 4 (by decide) rfl (List.mem_cons_of_mem _ fl_R_22) xd_R_cells_21 ?_
      refine aw_iconst (v := (3 : Int32)) C xd_R_cells_24 (by decide) ?_
      refine aw_iload_n C 1 xd_R_cells_25 rfl rfl ?_
      refine aw_imul C xd_R_cells_26 ?_
      refine aw_iload_n C 3 xd_R_cells_27 rfl rfl ?_
      refine aw_iadd C xd_R_cells_28 ?_
      obtain ⟨g_29, hm⟩ := aw_grd hm
      refine aw_iald C 5 (by decide) 0 rfl rfl (aw_in_ok g_29) xd_R_cells_29 ?_
      refine aw_iadd C xd_R_cells_30 ?_
      refine aw_istore_n (L' := [(2, .int (v2 + (σ 5 (Int32.toNatClampNeg (((3 : Int32) * v1) + v3))))), (0, .ref (ad 0)), (1, .int v1), (3, .int v3)]) C xd_R_cells_31 rfl (by decide) rfl ?_
      refine aw_iinc (j := 3) (v := v3 + (1 : Int32)) (L' := [(3, .int (v3 + (1 : Int32))), (2, .int (v2 + (σ 5 (Int32.toNatClampNeg (((3 : Int32) * v1) + v3))))), (0, .ref (ad 0)), (1, .int v1)]) C xd_R_cells_32 rfl rfl (by decide) rfl ?_
      refine aw_goto (tgt := 9) C xd_R_cells_35 (by decide) ?_
      refine aw_loc (L' := [(0, .ref (ad 0)), (1, .int v1), (2, .int (v2 + (σ 5 (Int32.toNatClampNeg (((3 : Int32) * v1) + v3))))), (3, .int (v3 + (1 : Int32)))]) C [2, 3, 1, 0] rfl ?_
      exact ih v1 (v2 + (σ 5 (Int32.toNatClampNeg (((3 : Int32) * v1) + v3)))) (v3 + (1 : Int32))  hm
set_option maxHeartbeats 4000000 in
set_option maxRecDepth 100000 in
theorem xc_R_cells (σ : aw_m) (a1 : Int32) (q : Int32)  (hm : xm_R_cells σ a1 = some q) : aw_M l D (ty_z ids) (zs_T ps) xy_R_cells (xw_R_cells :: gw_l) (rm_D (0)) [.ref (ad 0), .int a1] (rw_w ad ids σ) (some (.int q)) (rw_w ad ids σ) := by
  refine aw_intro (cc := xb_R_cells) (n := 4) (ret := (some .int)) "ModuleShelfModel" rfl (by decide) rfl (Nat.le_of_ble_eq_true rfl) ?_
  intro κ C
  unfold xm_R_cells at hm
  refine aw_aload_n C 0 xd_R_cells_0 rfl rfl ?_
  refine aw_get C 0 (by decide) rfl rfl (fun w h => List.mem_cons_of_mem _ (xi_R w h)) 1 (by decide) rfl (List.mem_cons_of_mem _ fl_R_13) xd_R_cells_1 ?_
  refine aw_iload_n C 1 xd_R_cells_4 rfl rfl ?_
  obtain ⟨g_5, hm⟩ := aw_grd hm
  refine aw_iald C 2 (by decide) 0 rfl rfl (aw_in_ok g_5) xd_R_cells_5 ?_
  refine aw_istore_n (L' := [(2, .int (σ 2 (Int32.toNatClampNeg a1))), (0, .ref (ad 0)), (1, .int a1)]) C xd_R_cells_6 rfl (by decide) rfl ?_
  refine aw_iconst (v := (0 : Int32)) C xd_R_cells_7 (by decide) ?_
  refine aw_istore_n (L' := [(3, .int (0 : Int32)), (2, .int (σ 2 (Int32.toNatClampNeg a1))), (0, .ref (ad 0)), (1, .int a1)]) C xd_R_cells_8 rfl (by decide) rfl ?_
  refine aw_loc (L' := [(0, .ref (ad 0)), (1, .int a1), (2, .int (σ 2 (Int32.toNatClampNeg a1))), (3, .int (0 : Int32))]) C [2, 3, 1, 0] rfl ?_
  exact xl_R_cells_9 σ _ C 64 a1 (σ 2 (Int32.toNatClampNeg a1)) (0 : Int32)  hm
def xq_R_allCells_5 (σ : aw_m)  : Nat → Int32 → Int32 → Option Int32
  | 0, _, _ => none
  | n + 1, v1, v2 => (if (12 : Int32) ≤ v2 then some v1 else if aw_in v2 13 = true then (if σ 1 (Int32.toNatClampNeg v2) ≤ 0 then xq_R_allCells_5 σ n v1 (v2 + (1 : Int32)) else (xm_R_cells σ v2).bind fun q_23 => xq_R_allCells_5 σ n (v1 + q_23) (v2 + (1 : Int32))) else none)
def xm_R_allCells (σ : aw_m)  : Option Int32 := xq_R_allCells_5 σ 64 (0 : Int32) (6 : Int32)
set_option maxHeartbeats 4000000 in
set_option maxRecDepth 100000 in
theorem xl_R_allCells_5 (σ : aw_m)  {κ : aw_K} (q : Int32) (C : aw_X l D (ty_z ids) (zs_T ps) (rm_D (1)) xb_R_allCells 3 "ModuleShelfModel" (xw_R_allCells :: gw_l) (some .int) (some (.int q)) (rw_w ad ids σ) κ) : ∀ (n : Nat) (v1 : Int32) (v2 : Int32) , xq_R_allCells_5 σ n v1 v2 = some q → aw_J κ 0 0 (rw_w ad ids σ) [(0, .ref (ad 0)), (1, .int v1), (2, .int v2)] 5 [] := by
  intro n
  induction n with
  | zero => intro v1 v2 hm; cases hm
  | succ n ih =>
    intro v1 v2 hm
    rw [xq_R_allCells_5] at hm
    refine aw_iload_n C 2 xd_R_allCells_5 rfl rfl ?_
    refine aw_bipush (v := (12 : Int32)) C xd_R_allCells_6 (by decide) ?_
    refine aw_icmp_ge (tgt := 34) C xd_R_allCells_8 (by decide) (fun c_8 => ?_) (fun c_8 => ?_)
    · rw [if_pos c_8] at hm
      refine aw_iload_n C 1 xd_R_allCells_34 rfl rfl ?_
      cases hm
      exact aw_iret C xd_R_allCells_35
    · rw [if_neg c_8] at hm
      refine aw_aload_n C 0 xd_R_allCells_11 rfl rfl ?_
      refine aw_get C 0 (by decide) rfl rfl (fun w h => List.mem_cons_of_mem _ (xi_R w h)) 0 (by decide) rfl (List.mem_cons_of_mem _ fl_R_7) xd_R_allCells_12 ?_
      refine aw_iload_n C 2 xd_R_allCells_15 rfl rfl ?_
      obtain ⟨g_16, hm⟩ := aw_grd hm
      refine aw_iald C 1 (by decide) 0 rfl rfl (aw_in_ok g_16) xd_R_allCells_16 ?_
      refine aw_if_le (tgt := 28) C xd_R_allCells_17 (by decide) (fun c_17 => ?_) (fun c_17 => ?_)
      · rw [if_pos c_17] at hm
        refine aw_iinc (j := 2) (v := v2 + (1 : Int32)) (L' := [(2, .int (v2 + (1 : Int32))), (0, .ref (ad 0)), (1, .int v1)]) C xd_R_allCells_28 rfl rfl (by decide) rfl ?_
        refine aw_goto (tgt := 5) C xd_R_allCells_31 (by decide) ?_
        refine aw_loc (L' := [(0, .ref (ad 0)), (1, .int v1), (2, .int (v2 + (1 : Int32)))]) C [1, 2, 0] rfl ?_
        exact ih v1 (v2 + (1 : Int32))  hm
      · rw [if_neg c_17] at hm
        refine aw_iload_n C 1 xd_R_allCells_20 rfl rfl ?_
        refine aw_aload_n C 0 xd_R_allCells_21 rfl rfl ?_
        refine aw_iload_n C 2 xd_R_allCells_22 rfl rfl ?_
        obtain ⟨q_23, e_23, hm⟩ := aw_bnd hm
        refine aw_callVi (As := [.int v2]) (rest := [.int v1]) (b := ad 0) C (xc_R_cells σ v2 _  e_23) rfl (gw_sub (gw_V xg_R_cells ml_R_113 im_R_cells se_R_cells wi_R)) na_R_cells (rm_lt (by decide) (by decide)) ⟨Nat.zero_le _, Nat.zero_le _⟩ 0 at_R rfl rfl (Nat.le_of_ble_eq_true rfl) xd_R_allCells_23 ?_
        refine aw_iadd C xd_R_allCells_26 ?_
        refine aw_istore_n (L' := [(1, .int (v1 + q_23)), (0, .ref (ad 0)), (2, .int v2)]) C xd_R_allCells_27 rfl (by decide) rfl ?_
        refine aw_iinc (j := 2) (v := v2 + (1 : Int32)) (L' := [(2, .int (v2 + (1 : Int32))), (1, .int (v1 + q_23)), (0, .ref (ad 0))]) C xd_R_allCells_28 rfl rfl (by decide) rfl ?_
        refine aw_goto (tgt := 5) C xd_R_allCells_31 (by decide) ?_
        refine aw_loc (L' := [(0, .ref (ad 0)), (1, .int (v1 + q_23)), (2, .int (v2 + (1 : Int32)))]) C [2, 1, 0] rfl ?_
        exact ih (v1 + q_23) (v2 + (1 : Int32))  hm
set_option maxHeartbeats 4000000 in
set_option maxRecDepth 100000 in
theorem xc_R_allCells (σ : aw_m)  (q : Int32)  (hm : xm_R_allCells σ  = some q) : aw_M l D (ty_z ids) (zs_T ps) xy_R_allCells (xw_R_allCells :: gw_l) (rm_D (1)) [.ref (ad 0)] (rw_w ad ids σ) (some (.int q)) (rw_w ad ids σ) := by
  refine aw_intro (cc := xb_R_allCells) (n := 3) (ret := (some .int)) "ModuleShelfModel" rfl (by decide) rfl (Nat.le_of_ble_eq_true rfl) ?_
  intro κ C
  unfold xm_R_allCells at hm
  refine aw_iconst (v := (0 : Int32)) C xd_R_allCells_0 (by decide) ?_
  refine aw_istore_n (L' := [(1, .int (0 : Int32)), (0, .ref (ad 0))]) C xd_R_allCells_1 rfl (by decide) rfl ?_
  refine aw_bipush (v := (6 : Int32)) C xd_R_allCells_2 (by decide) ?_
  refine aw_istore_n (L' := [(2, .int (6 : Int32)), (1, .int (0 : Int32)), (0, .ref (ad 0))]) C xd_R_allCells_4 rfl (by decide) rfl ?_
  refine aw_loc (L' := [(0, .ref (ad 0)), (1, .int (0 : Int32)), (2, .int (6 : Int32))]) C [2, 1, 0] rfl ?_
  exact xl_R_allCells_5 σ _ C 64 (0 : Int32) (6 : Int32)  hm
def xq_R_begins_2 (σ : aw_m)  : Nat → Int32 → Int32 → Int32 → Option Int32
  | 0, _, _, _ => none
  | n + 1, v1, v2, v3 => (if v2 ≤ v3 then if aw_in v1 13 = true then (if σ 1 (Int32.toNatClampNeg v1) = 0 then some (-4 : Int32) else some (0 : Int32)) else none else if aw_in v3 8 = true then (if σ 13 (Int32.toNatClampNeg v3) = v1 then some (-6 : Int32) else xq_R_begins_2 σ n v1 v2 (v3 + (1 : Int32))) else none)
def xm_R_begins (σ : aw_m) (a1 : Int32) (a2 : Int32) : Option Int32 := xq_R_begins_2 σ 64 a1 a2 (0 : Int32)
set_option maxHeartbeats 4000000 in
set_option maxRecDepth 100000 in
theorem xl_R_begins_2 (σ : aw_m)  {κ : aw_K} (q : Int32) (C : aw_X l D (ty_z ids) (zs_T ps) (rm_D (0)) xb_R_begins 4 "ModuleShelfModel" (xw_R_begins :: gw_l) (some .int) (some (.int q)) (rw_w ad ids σ) κ) : ∀ (n : Nat) (v1 : Int32) (v2 : Int32) (v3 : Int32) , xq_R_begins_2 σ n v1 v2 v3 = some q → aw_J κ 0 0 (rw_w ad ids σ) [(0, .ref (ad 0)), (1, .int v1), (2, .int v2), (3, .int v3)] 2 [] := by
  intro n
  induction n with
  | zero => intro v1 v2 v3 hm; cases hm
  | succ n ih =>
    intro v1 v2 v3 hm
    rw [xq_R_begins_2] at hm
    refine aw_iload_n C 3 xd_R_begins_2 rfl rfl ?_
    refine aw_iload_n C 2 xd_R_begins_3 rfl rfl ?_
    refine aw_icmp_ge (tgt := 26) C xd_R_begins_4 (by decide) (fun c_4 => ?_) (fun c_4 => ?_)
    · rw [if_pos c_4] at hm
      refine aw_aload_n C 0 xd_R_begins_26 rfl rfl ?_
      refine aw_get C 0 (by decide) rfl rfl (fun w h => List.mem_cons_of_mem _ (xi_R w h)) 0 (by decide) rfl (List.mem_cons_of_mem _ fl_R_7) xd_R_begins_27 ?_
      refine aw_iload_n C 1 xd_R_begins_30 rfl rfl ?_
      obtain ⟨g_31, hm⟩ := aw_grd hm
      refine aw_iald C 1 (by decide) 0 rfl rfl (aw_in_ok g_31) xd_R_begins_31 ?_
      refine aw_if_ne (tgt := 40) C xd_R_begins_32 (by decide) (fun c_32 => ?_) (fun c_32 => ?_)
      · rw [if_neg c_32] at hm
        refine aw_iconst (v := (0 : Int32)) C xd_R_begins_40 (by decide) ?_
        cases hm
        exact aw_iret C xd_R_begins_41
      · rw [if_pos c_32] at hm
        refine aw_bipush (v := (-4 : Int32)) C xd_R_begins_35 (by decide) ?_
        refine aw_goto (tgt := 41) C xd_R_begins_37 (by decide) ?_
        cases hm
        exact aw_iret C xd_R_begins_41
    · rw [if_neg c_4] at hm
      refine aw_aload_n C 0 xd_R_begins_7 rfl rfl ?_
      refine aw_get C 0 (by decide) rfl rfl (fun w h => List.mem_cons_of_mem _ (xi_R w h)) 16 (by decide) rfl (List.mem_cons_of_mem _ fl_R_50) xd_R_begins_8 ?_
      refine aw_iload_n C 3 xd_R_begins_11 rfl rfl ?_
      obtain ⟨g_12, hm⟩ := aw_grd hm
      refine aw_iald C 13 (by decide) 0 rfl rfl (aw_in_ok g_12) xd_R_begins_12 ?_
      refine aw_iload_n C 1 xd_R_begins_13 rfl rfl ?_
      refine aw_icmp_ne (tgt := 20) C xd_R_begins_14 (by decide) (fun c_14 => ?_) (fun c_14 => ?_)
      · rw [if_neg c_14] at hm
        refine aw_iinc (j := 3) (v := v3 + (1 : Int32)) (L' := [(3, .int (v3 + (1 : Int32))), (0, .ref (ad 0)), (1, .int v1), (2, .int v2)]) C xd_R_begins_20 rfl rfl (by decide) rfl ?_
        refine aw_goto (tgt := 2) C xd_R_begins_23 (by decide) ?_
        refine aw_loc (L' := [(0, .ref (ad 0)), (1, .int v1), (2, .int v2), (3, .int (v3 + (1 : Int32)))]) C [1, 2, 3, 0] rfl ?_
        exact ih v1 v2 (v3 + (1 : Int32))  hm
      · rw [if_pos c_14] at hm
        refine aw_bipush (v := (-6 : Int32)) C xd_R_begins_17 (by decide) ?_
        cases hm
        exact aw_iret C xd_R_begins_19
set_option maxHeartbeats 4000000 in
set_option maxRecDepth 100000 in
theorem xc_R_begins (σ : aw_m) (a1 : Int32) (a2 : Int32) (q : Int32)  (hm : xm_R_begins σ a1 a2 = some q) : aw_M l D (ty_z ids) (zs_T ps) xy_R_begins (xw_R_begins :: gw_l) (rm_D (0)) [.ref (ad 0), .int a1, .int a2] (rw_w ad ids σ) (some (.int q)) (rw_w ad ids σ) := by
  refine aw_intro (cc := xb_R_begins) (n := 4) (ret := (some .int)) "ModuleShelfModel" rfl (by decide) rfl (Nat.le_of_ble_eq_true rfl) ?_
  intro κ C
  unfold xm_R_begins at hm
  refine aw_iconst (v := (0 : Int32)) C xd_R_begins_0 (by decide) ?_
  refine aw_istore_n (L' := [(3, .int (0 : Int32)), (0, .ref (ad 0)), (1, .int a1), (2, .int a2)]) C xd_R_begins_1 rfl (by decide) rfl ?_
  refine aw_loc (L' := [(0, .ref (ad 0)), (1, .int a1), (2, .int a2), (3, .int (0 : Int32))]) C [1, 2, 3, 0] rfl ?_
  exact xl_R_begins_2 σ _ C 64 a1 a2 (0 : Int32)  hm
end
