-- decode rows, by wip/tools/decodes.py
theorem d_L_add_0 : decode b_L_add 0 = .ok (.aload 5, 2) := by decide +kernel
theorem d_L_add_2 : decode b_L_add 2 = .ok (.iconst 0, 1) := by decide +kernel
theorem d_L_add_3 : decode b_L_add 3 = .ok (.aload_n 0, 1) := by decide +kernel
theorem d_L_add_4 : decode b_L_add 4 = .ok (.iload_n 1, 1) := by decide +kernel
theorem d_L_add_5 : decode b_L_add 5 = .ok (.iload_n 2, 1) := by decide +kernel
theorem d_L_add_6 : decode b_L_add 6 = .ok (.iload_n 3, 1) := by decide +kernel
theorem d_L_add_7 : decode b_L_add 7 = .ok (.iload 4, 2) := by decide +kernel
theorem d_L_add_9 : decode b_L_add 9 = .ok (.invokevirtual 7, 3) := by decide +kernel
theorem d_L_add_12 : decode b_L_add 12 = .ok (.i2l, 1) := by decide +kernel
theorem d_L_add_13 : decode b_L_add 13 = .ok (.lastore, 1) := by decide +kernel
theorem d_L_add_14 : decode b_L_add 14 = .ok (.goto 11, 3) := by decide +kernel
theorem d_L_add_17 : decode b_L_add 17 = .ok (.astore 6, 2) := by decide +kernel
theorem d_L_add_19 : decode b_L_add 19 = .ok (.iconst 1, 1) := by decide +kernel
theorem d_L_add_20 : decode b_L_add 20 = .ok (.ireturn, 1) := by decide +kernel
theorem d_L_add_21 : decode b_L_add 21 = .ok (.astore 6, 2) := by decide +kernel
theorem d_L_add_23 : decode b_L_add 23 = .ok (.iconst 2, 1) := by decide +kernel
theorem d_L_add_24 : decode b_L_add 24 = .ok (.ireturn, 1) := by decide +kernel
theorem d_L_add_25 : decode b_L_add 25 = .ok (.iconst 0, 1) := by decide +kernel
theorem d_L_add_26 : decode b_L_add 26 = .ok (.ireturn, 1) := by decide +kernel
theorem d_L_basis_0 : decode b_L_basis 0 = .ok (.aload_n 1, 1) := by decide +kernel
theorem d_L_basis_1 : decode b_L_basis 1 = .ok (.iconst 0, 1) := by decide +kernel
theorem d_L_basis_2 : decode b_L_basis 2 = .ok (.aload_n 0, 1) := by decide +kernel
theorem d_L_basis_3 : decode b_L_basis 3 = .ok (.invokevirtual 45, 3) := by decide +kernel
theorem d_L_basis_6 : decode b_L_basis 6 = .ok (.i2l, 1) := by decide +kernel
theorem d_L_basis_7 : decode b_L_basis 7 = .ok (.lastore, 1) := by decide +kernel
theorem d_L_basis_8 : decode b_L_basis 8 = .ok (.goto 6, 3) := by decide +kernel
theorem d_L_basis_11 : decode b_L_basis 11 = .ok (.astore_n 2, 1) := by decide +kernel
theorem d_L_basis_12 : decode b_L_basis 12 = .ok (.iconst 1, 1) := by decide +kernel
theorem d_L_basis_13 : decode b_L_basis 13 = .ok (.ireturn, 1) := by decide +kernel
theorem d_L_basis_14 : decode b_L_basis 14 = .ok (.iconst 0, 1) := by decide +kernel
theorem d_L_basis_15 : decode b_L_basis 15 = .ok (.ireturn, 1) := by decide +kernel
theorem d_L_bounds_0 : decode b_L_bounds 0 = .ok (.aload_n 2, 1) := by decide +kernel
theorem d_L_bounds_1 : decode b_L_bounds 1 = .ok (.iconst 0, 1) := by decide +kernel
theorem d_L_bounds_2 : decode b_L_bounds 2 = .ok (.aload_n 0, 1) := by decide +kernel
theorem d_L_bounds_3 : decode b_L_bounds 3 = .ok (.iload_n 1, 1) := by decide +kernel
theorem d_L_bounds_4 : decode b_L_bounds 4 = .ok (.invokevirtual 37, 3) := by decide +kernel
theorem d_L_bounds_7 : decode b_L_bounds 7 = .ok (.ifCond .eq 7, 3) := by decide +kernel
theorem d_L_bounds_10 : decode b_L_bounds 10 = .ok (.lconst 1, 1) := by decide +kernel
theorem d_L_bounds_11 : decode b_L_bounds 11 = .ok (.goto 4, 3) := by decide +kernel
theorem d_L_bounds_14 : decode b_L_bounds 14 = .ok (.lconst 0, 1) := by decide +kernel
theorem d_L_bounds_15 : decode b_L_bounds 15 = .ok (.lastore, 1) := by decide +kernel
theorem d_L_bounds_16 : decode b_L_bounds 16 = .ok (.goto 9, 3) := by decide +kernel
theorem d_L_bounds_19 : decode b_L_bounds 19 = .ok (.astore_n 3, 1) := by decide +kernel
theorem d_L_bounds_20 : decode b_L_bounds 20 = .ok (.iconst 1, 1) := by decide +kernel
theorem d_L_bounds_21 : decode b_L_bounds 21 = .ok (.ireturn, 1) := by decide +kernel
theorem d_L_bounds_22 : decode b_L_bounds 22 = .ok (.astore_n 3, 1) := by decide +kernel
theorem d_L_bounds_23 : decode b_L_bounds 23 = .ok (.iconst 2, 1) := by decide +kernel
theorem d_L_bounds_24 : decode b_L_bounds 24 = .ok (.ireturn, 1) := by decide +kernel
theorem d_L_bounds_25 : decode b_L_bounds 25 = .ok (.iconst 0, 1) := by decide +kernel
theorem d_L_bounds_26 : decode b_L_bounds 26 = .ok (.ireturn, 1) := by decide +kernel
theorem d_L_cell_0 : decode b_L_cell 0 = .ok (.iload_n 1, 1) := by decide +kernel
theorem d_L_cell_1 : decode b_L_cell 1 = .ok (.aload_n 0, 1) := by decide +kernel
theorem d_L_cell_2 : decode b_L_cell 2 = .ok (.arraylength, 1) := by decide +kernel
theorem d_L_cell_3 : decode b_L_cell 3 = .ok (.if_icmp .ge 9, 3) := by decide +kernel
theorem d_L_cell_6 : decode b_L_cell 6 = .ok (.aload_n 0, 1) := by decide +kernel
theorem d_L_cell_7 : decode b_L_cell 7 = .ok (.iload_n 1, 1) := by decide +kernel
theorem d_L_cell_8 : decode b_L_cell 8 = .ok (.iaload, 1) := by decide +kernel
theorem d_L_cell_9 : decode b_L_cell 9 = .ok (.goto 4, 3) := by decide +kernel
theorem d_L_cell_12 : decode b_L_cell 12 = .ok (.iconst 0, 1) := by decide +kernel
theorem d_L_cell_13 : decode b_L_cell 13 = .ok (.ireturn, 1) := by decide +kernel
theorem d_L_drop_0 : decode b_L_drop 0 = .ok (.aload_n 0, 1) := by decide +kernel
theorem d_L_drop_1 : decode b_L_drop 1 = .ok (.iload_n 1, 1) := by decide +kernel
theorem d_L_drop_2 : decode b_L_drop 2 = .ok (.invokevirtual 17, 3) := by decide +kernel
theorem d_L_drop_5 : decode b_L_drop 5 = .ok (.goto 6, 3) := by decide +kernel
theorem d_L_drop_8 : decode b_L_drop 8 = .ok (.astore_n 2, 1) := by decide +kernel
theorem d_L_drop_9 : decode b_L_drop 9 = .ok (.iconst 1, 1) := by decide +kernel
theorem d_L_drop_10 : decode b_L_drop 10 = .ok (.ireturn, 1) := by decide +kernel
theorem d_L_drop_11 : decode b_L_drop 11 = .ok (.iconst 0, 1) := by decide +kernel
theorem d_L_drop_12 : decode b_L_drop 12 = .ok (.ireturn, 1) := by decide +kernel
theorem d_L_faces_0 : decode b_L_faces 0 = .ok (.aload_n 2, 1) := by decide +kernel
theorem d_L_faces_1 : decode b_L_faces 1 = .ok (.iconst 0, 1) := by decide +kernel
theorem d_L_faces_2 : decode b_L_faces 2 = .ok (.aload_n 0, 1) := by decide +kernel
theorem d_L_faces_3 : decode b_L_faces 3 = .ok (.iload_n 1, 1) := by decide +kernel
theorem d_L_faces_4 : decode b_L_faces 4 = .ok (.invokevirtual 41, 3) := by decide +kernel
theorem d_L_faces_7 : decode b_L_faces 7 = .ok (.i2l, 1) := by decide +kernel
theorem d_L_faces_8 : decode b_L_faces 8 = .ok (.lastore, 1) := by decide +kernel
theorem d_L_faces_9 : decode b_L_faces 9 = .ok (.goto 6, 3) := by decide +kernel
theorem d_L_faces_12 : decode b_L_faces 12 = .ok (.astore_n 3, 1) := by decide +kernel
theorem d_L_faces_13 : decode b_L_faces 13 = .ok (.iconst 1, 1) := by decide +kernel
theorem d_L_faces_14 : decode b_L_faces 14 = .ok (.ireturn, 1) := by decide +kernel
theorem d_L_faces_15 : decode b_L_faces 15 = .ok (.iconst 0, 1) := by decide +kernel
theorem d_L_faces_16 : decode b_L_faces 16 = .ok (.ireturn, 1) := by decide +kernel
theorem d_L_law_0 : decode b_L_law 0 = .ok (.new 8, 3) := by decide +kernel
theorem d_L_law_3 : decode b_L_law 3 = .ok (.dup, 1) := by decide +kernel
theorem d_L_law_4 : decode b_L_law 4 = .ok (.aload_n 0, 1) := by decide +kernel
theorem d_L_law_5 : decode b_L_law 5 = .ok (.iconst 0, 1) := by decide +kernel
theorem d_L_law_6 : decode b_L_law 6 = .ok (.invokestatic 57, 3) := by decide +kernel
theorem d_L_law_9 : decode b_L_law 9 = .ok (.invokespecial 63, 3) := by decide +kernel
theorem d_L_law_12 : decode b_L_law 12 = .ok (.astore_n 1, 1) := by decide +kernel
theorem d_L_law_13 : decode b_L_law 13 = .ok (.new 65, 3) := by decide +kernel
theorem d_L_law_16 : decode b_L_law 16 = .ok (.dup, 1) := by decide +kernel
theorem d_L_law_17 : decode b_L_law 17 = .ok (.aload_n 0, 1) := by decide +kernel
theorem d_L_law_18 : decode b_L_law 18 = .ok (.iconst 0, 1) := by decide +kernel
theorem d_L_law_19 : decode b_L_law 19 = .ok (.invokestatic 57, 3) := by decide +kernel
theorem d_L_law_22 : decode b_L_law 22 = .ok (.invokespecial 67, 3) := by decide +kernel
theorem d_L_law_25 : decode b_L_law 25 = .ok (.astore_n 2, 1) := by decide +kernel
theorem d_L_law_26 : decode b_L_law 26 = .ok (.iconst 1, 1) := by decide +kernel
theorem d_L_law_27 : decode b_L_law 27 = .ok (.newarray .long, 2) := by decide +kernel
theorem d_L_law_29 : decode b_L_law 29 = .ok (.astore_n 3, 1) := by decide +kernel
theorem d_L_law_30 : decode b_L_law 30 = .ok (.iconst 1, 1) := by decide +kernel
theorem d_L_law_31 : decode b_L_law 31 = .ok (.istore 4, 2) := by decide +kernel
theorem d_L_law_33 : decode b_L_law 33 = .ok (.iload 4, 2) := by decide +kernel
theorem d_L_law_35 : decode b_L_law 35 = .ok (.aload_n 0, 1) := by decide +kernel
theorem d_L_law_36 : decode b_L_law 36 = .ok (.arraylength, 1) := by decide +kernel
theorem d_L_law_37 : decode b_L_law 37 = .ok (.iconst 5, 1) := by decide +kernel
theorem d_L_law_38 : decode b_L_law 38 = .ok (.isub, 1) := by decide +kernel
theorem d_L_law_39 : decode b_L_law 39 = .ok (.if_icmp .gt 940, 3) := by decide +kernel
theorem d_L_law_42 : decode b_L_law 42 = .ok (.aload_n 0, 1) := by decide +kernel
theorem d_L_law_43 : decode b_L_law 43 = .ok (.iload 4, 2) := by decide +kernel
theorem d_L_law_45 : decode b_L_law 45 = .ok (.iaload, 1) := by decide +kernel
theorem d_L_law_46 : decode b_L_law 46 = .ok (.bipush 15, 2) := by decide +kernel
theorem d_L_law_48 : decode b_L_law 48 = .ok (.iand, 1) := by decide +kernel
theorem d_L_law_49 : decode b_L_law 49 = .ok (.tableswitch 924 0 13 #[71, 163, 199, 224, 292, 336, 404, 448, 511, 567, 611, 679, 740, 832], 71) := by decide +kernel
theorem d_L_law_120 : decode b_L_law 120 = .ok (.aload_n 1, 1) := by decide +kernel
theorem d_L_law_121 : decode b_L_law 121 = .ok (.aload_n 0, 1) := by decide +kernel
theorem d_L_law_122 : decode b_L_law 122 = .ok (.iload 4, 2) := by decide +kernel
theorem d_L_law_124 : decode b_L_law 124 = .ok (.iconst 1, 1) := by decide +kernel
theorem d_L_law_125 : decode b_L_law 125 = .ok (.iadd, 1) := by decide +kernel
theorem d_L_law_126 : decode b_L_law 126 = .ok (.iaload, 1) := by decide +kernel
theorem d_L_law_127 : decode b_L_law 127 = .ok (.aload_n 0, 1) := by decide +kernel
theorem d_L_law_128 : decode b_L_law 128 = .ok (.iload 4, 2) := by decide +kernel
theorem d_L_law_130 : decode b_L_law 130 = .ok (.iconst 2, 1) := by decide +kernel
theorem d_L_law_131 : decode b_L_law 131 = .ok (.iadd, 1) := by decide +kernel
theorem d_L_law_132 : decode b_L_law 132 = .ok (.iaload, 1) := by decide +kernel
theorem d_L_law_133 : decode b_L_law 133 = .ok (.aload_n 0, 1) := by decide +kernel
theorem d_L_law_134 : decode b_L_law 134 = .ok (.iload 4, 2) := by decide +kernel
theorem d_L_law_136 : decode b_L_law 136 = .ok (.iconst 3, 1) := by decide +kernel
theorem d_L_law_137 : decode b_L_law 137 = .ok (.iadd, 1) := by decide +kernel
theorem d_L_law_138 : decode b_L_law 138 = .ok (.iaload, 1) := by decide +kernel
theorem d_L_law_139 : decode b_L_law 139 = .ok (.aload_n 0, 1) := by decide +kernel
theorem d_L_law_140 : decode b_L_law 140 = .ok (.iload 4, 2) := by decide +kernel
theorem d_L_law_142 : decode b_L_law 142 = .ok (.iconst 4, 1) := by decide +kernel
theorem d_L_law_143 : decode b_L_law 143 = .ok (.iadd, 1) := by decide +kernel
theorem d_L_law_144 : decode b_L_law 144 = .ok (.iaload, 1) := by decide +kernel
theorem d_L_law_145 : decode b_L_law 145 = .ok (.aload_n 3, 1) := by decide +kernel
theorem d_L_law_146 : decode b_L_law 146 = .ok (.invokestatic 68, 3) := by decide +kernel
theorem d_L_law_149 : decode b_L_law 149 = .ok (.istore 5, 2) := by decide +kernel
theorem d_L_law_151 : decode b_L_law 151 = .ok (.aload_n 2, 1) := by decide +kernel
theorem d_L_law_152 : decode b_L_law 152 = .ok (.aload_n 0, 1) := by decide +kernel
theorem d_L_law_153 : decode b_L_law 153 = .ok (.iload 4, 2) := by decide +kernel
theorem d_L_law_155 : decode b_L_law 155 = .ok (.iconst 1, 1) := by decide +kernel
theorem d_L_law_156 : decode b_L_law 156 = .ok (.iadd, 1) := by decide +kernel
theorem d_L_law_157 : decode b_L_law 157 = .ok (.iaload, 1) := by decide +kernel
theorem d_L_law_158 : decode b_L_law 158 = .ok (.aload_n 0, 1) := by decide +kernel
theorem d_L_law_159 : decode b_L_law 159 = .ok (.iload 4, 2) := by decide +kernel
theorem d_L_law_161 : decode b_L_law 161 = .ok (.iconst 2, 1) := by decide +kernel
theorem d_L_law_162 : decode b_L_law 162 = .ok (.iadd, 1) := by decide +kernel
theorem d_L_law_163 : decode b_L_law 163 = .ok (.iaload, 1) := by decide +kernel
theorem d_L_law_164 : decode b_L_law 164 = .ok (.aload_n 0, 1) := by decide +kernel
theorem d_L_law_165 : decode b_L_law 165 = .ok (.iload 4, 2) := by decide +kernel
theorem d_L_law_167 : decode b_L_law 167 = .ok (.iconst 3, 1) := by decide +kernel
theorem d_L_law_168 : decode b_L_law 168 = .ok (.iadd, 1) := by decide +kernel
theorem d_L_law_169 : decode b_L_law 169 = .ok (.iaload, 1) := by decide +kernel
theorem d_L_law_170 : decode b_L_law 170 = .ok (.aload_n 0, 1) := by decide +kernel
theorem d_L_law_171 : decode b_L_law 171 = .ok (.iload 4, 2) := by decide +kernel
theorem d_L_law_173 : decode b_L_law 173 = .ok (.iconst 4, 1) := by decide +kernel
theorem d_L_law_174 : decode b_L_law 174 = .ok (.iadd, 1) := by decide +kernel
theorem d_L_law_175 : decode b_L_law 175 = .ok (.iaload, 1) := by decide +kernel
theorem d_L_law_176 : decode b_L_law 176 = .ok (.invokevirtual 71, 3) := by decide +kernel
theorem d_L_law_179 : decode b_L_law 179 = .ok (.istore 6, 2) := by decide +kernel
theorem d_L_law_181 : decode b_L_law 181 = .ok (.aload_n 2, 1) := by decide +kernel
theorem d_L_law_182 : decode b_L_law 182 = .ok (.invokevirtual 72, 3) := by decide +kernel
theorem d_L_law_185 : decode b_L_law 185 = .ok (.iload 5, 2) := by decide +kernel
theorem d_L_law_187 : decode b_L_law 187 = .ok (.if_icmp .eq 5, 3) := by decide +kernel
theorem d_L_law_190 : decode b_L_law 190 = .ok (.iconst 0, 1) := by decide +kernel
theorem d_L_law_191 : decode b_L_law 191 = .ok (.ireturn, 1) := by decide +kernel
theorem d_L_law_192 : decode b_L_law 192 = .ok (.iload 5, 2) := by decide +kernel
theorem d_L_law_194 : decode b_L_law 194 = .ok (.ifCond .ne 15, 3) := by decide +kernel
theorem d_L_law_197 : decode b_L_law 197 = .ok (.aload_n 3, 1) := by decide +kernel
theorem d_L_law_198 : decode b_L_law 198 = .ok (.iconst 0, 1) := by decide +kernel
theorem d_L_law_199 : decode b_L_law 199 = .ok (.laload, 1) := by decide +kernel
theorem d_L_law_200 : decode b_L_law 200 = .ok (.iload 6, 2) := by decide +kernel
theorem d_L_law_202 : decode b_L_law 202 = .ok (.i2l, 1) := by decide +kernel
theorem d_L_law_203 : decode b_L_law 203 = .ok (.lcmp, 1) := by decide +kernel
theorem d_L_law_204 : decode b_L_law 204 = .ok (.ifCond .eq 5, 3) := by decide +kernel
theorem d_L_law_207 : decode b_L_law 207 = .ok (.iconst 0, 1) := by decide +kernel
theorem d_L_law_208 : decode b_L_law 208 = .ok (.ireturn, 1) := by decide +kernel
theorem d_L_law_209 : decode b_L_law 209 = .ok (.goto 764, 3) := by decide +kernel
theorem d_L_law_212 : decode b_L_law 212 = .ok (.aload_n 1, 1) := by decide +kernel
theorem d_L_law_213 : decode b_L_law 213 = .ok (.aload_n 0, 1) := by decide +kernel
theorem d_L_law_214 : decode b_L_law 214 = .ok (.iload 4, 2) := by decide +kernel
theorem d_L_law_216 : decode b_L_law 216 = .ok (.iconst 1, 1) := by decide +kernel
theorem d_L_law_217 : decode b_L_law 217 = .ok (.iadd, 1) := by decide +kernel
theorem d_L_law_218 : decode b_L_law 218 = .ok (.iaload, 1) := by decide +kernel
theorem d_L_law_219 : decode b_L_law 219 = .ok (.invokestatic 75, 3) := by decide +kernel
theorem d_L_law_222 : decode b_L_law 222 = .ok (.istore 5, 2) := by decide +kernel
theorem d_L_law_224 : decode b_L_law 224 = .ok (.aload_n 2, 1) := by decide +kernel
theorem d_L_law_225 : decode b_L_law 225 = .ok (.aload_n 0, 1) := by decide +kernel
theorem d_L_law_226 : decode b_L_law 226 = .ok (.iload 4, 2) := by decide +kernel
theorem d_L_law_228 : decode b_L_law 228 = .ok (.iconst 1, 1) := by decide +kernel
theorem d_L_law_229 : decode b_L_law 229 = .ok (.iadd, 1) := by decide +kernel
theorem d_L_law_230 : decode b_L_law 230 = .ok (.iaload, 1) := by decide +kernel
theorem d_L_law_231 : decode b_L_law 231 = .ok (.invokevirtual 78, 3) := by decide +kernel
theorem d_L_law_234 : decode b_L_law 234 = .ok (.aload_n 2, 1) := by decide +kernel
theorem d_L_law_235 : decode b_L_law 235 = .ok (.invokevirtual 72, 3) := by decide +kernel
theorem d_L_law_238 : decode b_L_law 238 = .ok (.iload 5, 2) := by decide +kernel
theorem d_L_law_240 : decode b_L_law 240 = .ok (.if_icmp .eq 5, 3) := by decide +kernel
theorem d_L_law_243 : decode b_L_law 243 = .ok (.iconst 0, 1) := by decide +kernel
theorem d_L_law_244 : decode b_L_law 244 = .ok (.ireturn, 1) := by decide +kernel
theorem d_L_law_245 : decode b_L_law 245 = .ok (.goto 728, 3) := by decide +kernel
theorem d_L_law_248 : decode b_L_law 248 = .ok (.aload_n 1, 1) := by decide +kernel
theorem d_L_law_249 : decode b_L_law 249 = .ok (.aload_n 0, 1) := by decide +kernel
theorem d_L_law_250 : decode b_L_law 250 = .ok (.iload 4, 2) := by decide +kernel
theorem d_L_law_252 : decode b_L_law 252 = .ok (.iconst 1, 1) := by decide +kernel
theorem d_L_law_253 : decode b_L_law 253 = .ok (.iadd, 1) := by decide +kernel
theorem d_L_law_254 : decode b_L_law 254 = .ok (.iaload, 1) := by decide +kernel
theorem d_L_law_255 : decode b_L_law 255 = .ok (.invokevirtual 79, 3) := by decide +kernel
theorem d_L_law_258 : decode b_L_law 258 = .ok (.aload_n 2, 1) := by decide +kernel
theorem d_L_law_259 : decode b_L_law 259 = .ok (.aload_n 0, 1) := by decide +kernel
theorem d_L_law_260 : decode b_L_law 260 = .ok (.iload 4, 2) := by decide +kernel
theorem d_L_law_262 : decode b_L_law 262 = .ok (.iconst 1, 1) := by decide +kernel
theorem d_L_law_263 : decode b_L_law 263 = .ok (.iadd, 1) := by decide +kernel
theorem d_L_law_264 : decode b_L_law 264 = .ok (.iaload, 1) := by decide +kernel
theorem d_L_law_265 : decode b_L_law 265 = .ok (.invokevirtual 82, 3) := by decide +kernel
theorem d_L_law_268 : decode b_L_law 268 = .ok (.if_icmp .eq 705, 3) := by decide +kernel
theorem d_L_law_271 : decode b_L_law 271 = .ok (.iconst 0, 1) := by decide +kernel
theorem d_L_law_272 : decode b_L_law 272 = .ok (.ireturn, 1) := by decide +kernel
theorem d_L_law_273 : decode b_L_law 273 = .ok (.aload_n 1, 1) := by decide +kernel
theorem d_L_law_274 : decode b_L_law 274 = .ok (.aload_n 0, 1) := by decide +kernel
theorem d_L_law_275 : decode b_L_law 275 = .ok (.iload 4, 2) := by decide +kernel
theorem d_L_law_277 : decode b_L_law 277 = .ok (.iconst 1, 1) := by decide +kernel
theorem d_L_law_278 : decode b_L_law 278 = .ok (.iadd, 1) := by decide +kernel
theorem d_L_law_279 : decode b_L_law 279 = .ok (.iaload, 1) := by decide +kernel
theorem d_L_law_280 : decode b_L_law 280 = .ok (.aload_n 0, 1) := by decide +kernel
theorem d_L_law_281 : decode b_L_law 281 = .ok (.iload 4, 2) := by decide +kernel
theorem d_L_law_283 : decode b_L_law 283 = .ok (.iconst 2, 1) := by decide +kernel
theorem d_L_law_284 : decode b_L_law 284 = .ok (.iadd, 1) := by decide +kernel
theorem d_L_law_285 : decode b_L_law 285 = .ok (.iaload, 1) := by decide +kernel
theorem d_L_law_286 : decode b_L_law 286 = .ok (.aload_n 3, 1) := by decide +kernel
theorem d_L_law_287 : decode b_L_law 287 = .ok (.invokestatic 83, 3) := by decide +kernel
theorem d_L_law_290 : decode b_L_law 290 = .ok (.istore 5, 2) := by decide +kernel
theorem d_L_law_292 : decode b_L_law 292 = .ok (.aload_n 2, 1) := by decide +kernel
theorem d_L_law_293 : decode b_L_law 293 = .ok (.aload_n 0, 1) := by decide +kernel
theorem d_L_law_294 : decode b_L_law 294 = .ok (.iload 4, 2) := by decide +kernel
theorem d_L_law_296 : decode b_L_law 296 = .ok (.iconst 1, 1) := by decide +kernel
theorem d_L_law_297 : decode b_L_law 297 = .ok (.iadd, 1) := by decide +kernel
theorem d_L_law_298 : decode b_L_law 298 = .ok (.iaload, 1) := by decide +kernel
theorem d_L_law_299 : decode b_L_law 299 = .ok (.aload_n 0, 1) := by decide +kernel
theorem d_L_law_300 : decode b_L_law 300 = .ok (.iload 4, 2) := by decide +kernel
theorem d_L_law_302 : decode b_L_law 302 = .ok (.iconst 2, 1) := by decide +kernel
theorem d_L_law_303 : decode b_L_law 303 = .ok (.iadd, 1) := by decide +kernel
theorem d_L_law_304 : decode b_L_law 304 = .ok (.iaload, 1) := by decide +kernel
theorem d_L_law_305 : decode b_L_law 305 = .ok (.invokevirtual 86, 3) := by decide +kernel
theorem d_L_law_308 : decode b_L_law 308 = .ok (.istore 6, 2) := by decide +kernel
theorem d_L_law_310 : decode b_L_law 310 = .ok (.aload_n 2, 1) := by decide +kernel
theorem d_L_law_311 : decode b_L_law 311 = .ok (.invokevirtual 72, 3) := by decide +kernel
theorem d_L_law_314 : decode b_L_law 314 = .ok (.iload 5, 2) := by decide +kernel
theorem d_L_law_316 : decode b_L_law 316 = .ok (.if_icmp .eq 5, 3) := by decide +kernel
theorem d_L_law_319 : decode b_L_law 319 = .ok (.iconst 0, 1) := by decide +kernel
theorem d_L_law_320 : decode b_L_law 320 = .ok (.ireturn, 1) := by decide +kernel
theorem d_L_law_321 : decode b_L_law 321 = .ok (.iload 5, 2) := by decide +kernel
theorem d_L_law_323 : decode b_L_law 323 = .ok (.ifCond .ne 15, 3) := by decide +kernel
theorem d_L_law_326 : decode b_L_law 326 = .ok (.aload_n 3, 1) := by decide +kernel
theorem d_L_law_327 : decode b_L_law 327 = .ok (.iconst 0, 1) := by decide +kernel
theorem d_L_law_328 : decode b_L_law 328 = .ok (.laload, 1) := by decide +kernel
theorem d_L_law_329 : decode b_L_law 329 = .ok (.iload 6, 2) := by decide +kernel
theorem d_L_law_331 : decode b_L_law 331 = .ok (.i2l, 1) := by decide +kernel
theorem d_L_law_332 : decode b_L_law 332 = .ok (.lcmp, 1) := by decide +kernel
theorem d_L_law_333 : decode b_L_law 333 = .ok (.ifCond .eq 5, 3) := by decide +kernel
theorem d_L_law_336 : decode b_L_law 336 = .ok (.iconst 0, 1) := by decide +kernel
theorem d_L_law_337 : decode b_L_law 337 = .ok (.ireturn, 1) := by decide +kernel
theorem d_L_law_338 : decode b_L_law 338 = .ok (.goto 635, 3) := by decide +kernel
theorem d_L_law_341 : decode b_L_law 341 = .ok (.aload_n 1, 1) := by decide +kernel
theorem d_L_law_342 : decode b_L_law 342 = .ok (.aload_n 3, 1) := by decide +kernel
theorem d_L_law_343 : decode b_L_law 343 = .ok (.invokestatic 87, 3) := by decide +kernel
theorem d_L_law_346 : decode b_L_law 346 = .ok (.istore 5, 2) := by decide +kernel
theorem d_L_law_348 : decode b_L_law 348 = .ok (.aload_n 2, 1) := by decide +kernel
theorem d_L_law_349 : decode b_L_law 349 = .ok (.invokevirtual 90, 3) := by decide +kernel
theorem d_L_law_352 : decode b_L_law 352 = .ok (.istore 6, 2) := by decide +kernel
theorem d_L_law_354 : decode b_L_law 354 = .ok (.aload_n 2, 1) := by decide +kernel
theorem d_L_law_355 : decode b_L_law 355 = .ok (.invokevirtual 72, 3) := by decide +kernel
theorem d_L_law_358 : decode b_L_law 358 = .ok (.iload 5, 2) := by decide +kernel
theorem d_L_law_360 : decode b_L_law 360 = .ok (.if_icmp .eq 5, 3) := by decide +kernel
theorem d_L_law_363 : decode b_L_law 363 = .ok (.iconst 0, 1) := by decide +kernel
theorem d_L_law_364 : decode b_L_law 364 = .ok (.ireturn, 1) := by decide +kernel
theorem d_L_law_365 : decode b_L_law 365 = .ok (.iload 5, 2) := by decide +kernel
theorem d_L_law_367 : decode b_L_law 367 = .ok (.ifCond .ne 15, 3) := by decide +kernel
theorem d_L_law_370 : decode b_L_law 370 = .ok (.aload_n 3, 1) := by decide +kernel
theorem d_L_law_371 : decode b_L_law 371 = .ok (.iconst 0, 1) := by decide +kernel
theorem d_L_law_372 : decode b_L_law 372 = .ok (.laload, 1) := by decide +kernel
theorem d_L_law_373 : decode b_L_law 373 = .ok (.iload 6, 2) := by decide +kernel
theorem d_L_law_375 : decode b_L_law 375 = .ok (.i2l, 1) := by decide +kernel
theorem d_L_law_376 : decode b_L_law 376 = .ok (.lcmp, 1) := by decide +kernel
theorem d_L_law_377 : decode b_L_law 377 = .ok (.ifCond .eq 5, 3) := by decide +kernel
theorem d_L_law_380 : decode b_L_law 380 = .ok (.iconst 0, 1) := by decide +kernel
theorem d_L_law_381 : decode b_L_law 381 = .ok (.ireturn, 1) := by decide +kernel
theorem d_L_law_382 : decode b_L_law 382 = .ok (.goto 591, 3) := by decide +kernel
theorem d_L_law_385 : decode b_L_law 385 = .ok (.aload_n 1, 1) := by decide +kernel
theorem d_L_law_386 : decode b_L_law 386 = .ok (.aload_n 0, 1) := by decide +kernel
theorem d_L_law_387 : decode b_L_law 387 = .ok (.iload 4, 2) := by decide +kernel
theorem d_L_law_389 : decode b_L_law 389 = .ok (.iconst 1, 1) := by decide +kernel
theorem d_L_law_390 : decode b_L_law 390 = .ok (.iadd, 1) := by decide +kernel
theorem d_L_law_391 : decode b_L_law 391 = .ok (.iaload, 1) := by decide +kernel
theorem d_L_law_392 : decode b_L_law 392 = .ok (.aload_n 0, 1) := by decide +kernel
theorem d_L_law_393 : decode b_L_law 393 = .ok (.iload 4, 2) := by decide +kernel
theorem d_L_law_395 : decode b_L_law 395 = .ok (.iconst 2, 1) := by decide +kernel
theorem d_L_law_396 : decode b_L_law 396 = .ok (.iadd, 1) := by decide +kernel
theorem d_L_law_397 : decode b_L_law 397 = .ok (.iaload, 1) := by decide +kernel
theorem d_L_law_398 : decode b_L_law 398 = .ok (.aload_n 3, 1) := by decide +kernel
theorem d_L_law_399 : decode b_L_law 399 = .ok (.invokestatic 91, 3) := by decide +kernel
theorem d_L_law_402 : decode b_L_law 402 = .ok (.istore 5, 2) := by decide +kernel
theorem d_L_law_404 : decode b_L_law 404 = .ok (.aload_n 2, 1) := by decide +kernel
theorem d_L_law_405 : decode b_L_law 405 = .ok (.aload_n 0, 1) := by decide +kernel
theorem d_L_law_406 : decode b_L_law 406 = .ok (.iload 4, 2) := by decide +kernel
theorem d_L_law_408 : decode b_L_law 408 = .ok (.iconst 1, 1) := by decide +kernel
theorem d_L_law_409 : decode b_L_law 409 = .ok (.iadd, 1) := by decide +kernel
theorem d_L_law_410 : decode b_L_law 410 = .ok (.iaload, 1) := by decide +kernel
theorem d_L_law_411 : decode b_L_law 411 = .ok (.aload_n 0, 1) := by decide +kernel
theorem d_L_law_412 : decode b_L_law 412 = .ok (.iload 4, 2) := by decide +kernel
theorem d_L_law_414 : decode b_L_law 414 = .ok (.iconst 2, 1) := by decide +kernel
theorem d_L_law_415 : decode b_L_law 415 = .ok (.iadd, 1) := by decide +kernel
theorem d_L_law_416 : decode b_L_law 416 = .ok (.iaload, 1) := by decide +kernel
theorem d_L_law_417 : decode b_L_law 417 = .ok (.invokevirtual 93, 3) := by decide +kernel
theorem d_L_law_420 : decode b_L_law 420 = .ok (.istore 6, 2) := by decide +kernel
theorem d_L_law_422 : decode b_L_law 422 = .ok (.aload_n 2, 1) := by decide +kernel
theorem d_L_law_423 : decode b_L_law 423 = .ok (.invokevirtual 72, 3) := by decide +kernel
theorem d_L_law_426 : decode b_L_law 426 = .ok (.iload 5, 2) := by decide +kernel
theorem d_L_law_428 : decode b_L_law 428 = .ok (.if_icmp .eq 5, 3) := by decide +kernel
theorem d_L_law_431 : decode b_L_law 431 = .ok (.iconst 0, 1) := by decide +kernel
theorem d_L_law_432 : decode b_L_law 432 = .ok (.ireturn, 1) := by decide +kernel
theorem d_L_law_433 : decode b_L_law 433 = .ok (.iload 5, 2) := by decide +kernel
theorem d_L_law_435 : decode b_L_law 435 = .ok (.ifCond .ne 15, 3) := by decide +kernel
theorem d_L_law_438 : decode b_L_law 438 = .ok (.aload_n 3, 1) := by decide +kernel
theorem d_L_law_439 : decode b_L_law 439 = .ok (.iconst 0, 1) := by decide +kernel
theorem d_L_law_440 : decode b_L_law 440 = .ok (.laload, 1) := by decide +kernel
theorem d_L_law_441 : decode b_L_law 441 = .ok (.iload 6, 2) := by decide +kernel
theorem d_L_law_443 : decode b_L_law 443 = .ok (.i2l, 1) := by decide +kernel
theorem d_L_law_444 : decode b_L_law 444 = .ok (.lcmp, 1) := by decide +kernel
theorem d_L_law_445 : decode b_L_law 445 = .ok (.ifCond .eq 5, 3) := by decide +kernel
theorem d_L_law_448 : decode b_L_law 448 = .ok (.iconst 0, 1) := by decide +kernel
theorem d_L_law_449 : decode b_L_law 449 = .ok (.ireturn, 1) := by decide +kernel
theorem d_L_law_450 : decode b_L_law 450 = .ok (.goto 523, 3) := by decide +kernel
theorem d_L_law_453 : decode b_L_law 453 = .ok (.aload_n 1, 1) := by decide +kernel
theorem d_L_law_454 : decode b_L_law 454 = .ok (.aload_n 3, 1) := by decide +kernel
theorem d_L_law_455 : decode b_L_law 455 = .ok (.invokestatic 94, 3) := by decide +kernel
theorem d_L_law_458 : decode b_L_law 458 = .ok (.istore 5, 2) := by decide +kernel
theorem d_L_law_460 : decode b_L_law 460 = .ok (.aload_n 2, 1) := by decide +kernel
theorem d_L_law_461 : decode b_L_law 461 = .ok (.invokevirtual 96, 3) := by decide +kernel
theorem d_L_law_464 : decode b_L_law 464 = .ok (.istore 6, 2) := by decide +kernel
theorem d_L_law_466 : decode b_L_law 466 = .ok (.aload_n 2, 1) := by decide +kernel
theorem d_L_law_467 : decode b_L_law 467 = .ok (.invokevirtual 72, 3) := by decide +kernel
theorem d_L_law_470 : decode b_L_law 470 = .ok (.iload 5, 2) := by decide +kernel
theorem d_L_law_472 : decode b_L_law 472 = .ok (.if_icmp .eq 5, 3) := by decide +kernel
theorem d_L_law_475 : decode b_L_law 475 = .ok (.iconst 0, 1) := by decide +kernel
theorem d_L_law_476 : decode b_L_law 476 = .ok (.ireturn, 1) := by decide +kernel
theorem d_L_law_477 : decode b_L_law 477 = .ok (.iload 5, 2) := by decide +kernel
theorem d_L_law_479 : decode b_L_law 479 = .ok (.ifCond .ne 15, 3) := by decide +kernel
theorem d_L_law_482 : decode b_L_law 482 = .ok (.aload_n 3, 1) := by decide +kernel
theorem d_L_law_483 : decode b_L_law 483 = .ok (.iconst 0, 1) := by decide +kernel
theorem d_L_law_484 : decode b_L_law 484 = .ok (.laload, 1) := by decide +kernel
theorem d_L_law_485 : decode b_L_law 485 = .ok (.iload 6, 2) := by decide +kernel
theorem d_L_law_487 : decode b_L_law 487 = .ok (.i2l, 1) := by decide +kernel
theorem d_L_law_488 : decode b_L_law 488 = .ok (.lcmp, 1) := by decide +kernel
theorem d_L_law_489 : decode b_L_law 489 = .ok (.ifCond .eq 5, 3) := by decide +kernel
theorem d_L_law_492 : decode b_L_law 492 = .ok (.iconst 0, 1) := by decide +kernel
theorem d_L_law_493 : decode b_L_law 493 = .ok (.ireturn, 1) := by decide +kernel
theorem d_L_law_494 : decode b_L_law 494 = .ok (.goto 479, 3) := by decide +kernel
theorem d_L_law_497 : decode b_L_law 497 = .ok (.aload_n 1, 1) := by decide +kernel
theorem d_L_law_498 : decode b_L_law 498 = .ok (.aload_n 0, 1) := by decide +kernel
theorem d_L_law_499 : decode b_L_law 499 = .ok (.iload 4, 2) := by decide +kernel
theorem d_L_law_501 : decode b_L_law 501 = .ok (.iconst 1, 1) := by decide +kernel
theorem d_L_law_502 : decode b_L_law 502 = .ok (.iadd, 1) := by decide +kernel
theorem d_L_law_503 : decode b_L_law 503 = .ok (.iaload, 1) := by decide +kernel
theorem d_L_law_504 : decode b_L_law 504 = .ok (.aload_n 3, 1) := by decide +kernel
theorem d_L_law_505 : decode b_L_law 505 = .ok (.invokestatic 97, 3) := by decide +kernel
theorem d_L_law_508 : decode b_L_law 508 = .ok (.istore 5, 2) := by decide +kernel
theorem d_L_law_510 : decode b_L_law 510 = .ok (.aload_n 2, 1) := by decide +kernel
theorem d_L_law_511 : decode b_L_law 511 = .ok (.aload_n 0, 1) := by decide +kernel
theorem d_L_law_512 : decode b_L_law 512 = .ok (.iload 4, 2) := by decide +kernel
theorem d_L_law_514 : decode b_L_law 514 = .ok (.iconst 1, 1) := by decide +kernel
theorem d_L_law_515 : decode b_L_law 515 = .ok (.iadd, 1) := by decide +kernel
theorem d_L_law_516 : decode b_L_law 516 = .ok (.iaload, 1) := by decide +kernel
theorem d_L_law_517 : decode b_L_law 517 = .ok (.invokevirtual 100, 3) := by decide +kernel
theorem d_L_law_520 : decode b_L_law 520 = .ok (.istore 6, 2) := by decide +kernel
theorem d_L_law_522 : decode b_L_law 522 = .ok (.aload_n 2, 1) := by decide +kernel
theorem d_L_law_523 : decode b_L_law 523 = .ok (.invokevirtual 72, 3) := by decide +kernel
theorem d_L_law_526 : decode b_L_law 526 = .ok (.iload 5, 2) := by decide +kernel
theorem d_L_law_528 : decode b_L_law 528 = .ok (.if_icmp .eq 5, 3) := by decide +kernel
theorem d_L_law_531 : decode b_L_law 531 = .ok (.iconst 0, 1) := by decide +kernel
theorem d_L_law_532 : decode b_L_law 532 = .ok (.ireturn, 1) := by decide +kernel
theorem d_L_law_533 : decode b_L_law 533 = .ok (.iload 5, 2) := by decide +kernel
theorem d_L_law_535 : decode b_L_law 535 = .ok (.ifCond .ne 22, 3) := by decide +kernel
theorem d_L_law_538 : decode b_L_law 538 = .ok (.aload_n 3, 1) := by decide +kernel
theorem d_L_law_539 : decode b_L_law 539 = .ok (.iconst 0, 1) := by decide +kernel
theorem d_L_law_540 : decode b_L_law 540 = .ok (.laload, 1) := by decide +kernel
theorem d_L_law_541 : decode b_L_law 541 = .ok (.iload 6, 2) := by decide +kernel
theorem d_L_law_543 : decode b_L_law 543 = .ok (.ifCond .eq 7, 3) := by decide +kernel
theorem d_L_law_546 : decode b_L_law 546 = .ok (.lconst 1, 1) := by decide +kernel
theorem d_L_law_547 : decode b_L_law 547 = .ok (.goto 4, 3) := by decide +kernel
theorem d_L_law_550 : decode b_L_law 550 = .ok (.lconst 0, 1) := by decide +kernel
theorem d_L_law_551 : decode b_L_law 551 = .ok (.lcmp, 1) := by decide +kernel
theorem d_L_law_552 : decode b_L_law 552 = .ok (.ifCond .eq 5, 3) := by decide +kernel
theorem d_L_law_555 : decode b_L_law 555 = .ok (.iconst 0, 1) := by decide +kernel
theorem d_L_law_556 : decode b_L_law 556 = .ok (.ireturn, 1) := by decide +kernel
theorem d_L_law_557 : decode b_L_law 557 = .ok (.goto 416, 3) := by decide +kernel
theorem d_L_law_560 : decode b_L_law 560 = .ok (.aload_n 1, 1) := by decide +kernel
theorem d_L_law_561 : decode b_L_law 561 = .ok (.aload_n 0, 1) := by decide +kernel
theorem d_L_law_562 : decode b_L_law 562 = .ok (.iload 4, 2) := by decide +kernel
theorem d_L_law_564 : decode b_L_law 564 = .ok (.iconst 1, 1) := by decide +kernel
theorem d_L_law_565 : decode b_L_law 565 = .ok (.iadd, 1) := by decide +kernel
theorem d_L_law_566 : decode b_L_law 566 = .ok (.iaload, 1) := by decide +kernel
theorem d_L_law_567 : decode b_L_law 567 = .ok (.aload_n 3, 1) := by decide +kernel
theorem d_L_law_568 : decode b_L_law 568 = .ok (.invokestatic 101, 3) := by decide +kernel
theorem d_L_law_571 : decode b_L_law 571 = .ok (.istore 5, 2) := by decide +kernel
theorem d_L_law_573 : decode b_L_law 573 = .ok (.aload_n 2, 1) := by decide +kernel
theorem d_L_law_574 : decode b_L_law 574 = .ok (.aload_n 0, 1) := by decide +kernel
theorem d_L_law_575 : decode b_L_law 575 = .ok (.iload 4, 2) := by decide +kernel
theorem d_L_law_577 : decode b_L_law 577 = .ok (.iconst 1, 1) := by decide +kernel
theorem d_L_law_578 : decode b_L_law 578 = .ok (.iadd, 1) := by decide +kernel
theorem d_L_law_579 : decode b_L_law 579 = .ok (.iaload, 1) := by decide +kernel
theorem d_L_law_580 : decode b_L_law 580 = .ok (.invokevirtual 103, 3) := by decide +kernel
theorem d_L_law_583 : decode b_L_law 583 = .ok (.istore 6, 2) := by decide +kernel
theorem d_L_law_585 : decode b_L_law 585 = .ok (.aload_n 2, 1) := by decide +kernel
theorem d_L_law_586 : decode b_L_law 586 = .ok (.invokevirtual 72, 3) := by decide +kernel
theorem d_L_law_589 : decode b_L_law 589 = .ok (.iload 5, 2) := by decide +kernel
theorem d_L_law_591 : decode b_L_law 591 = .ok (.if_icmp .eq 5, 3) := by decide +kernel
theorem d_L_law_594 : decode b_L_law 594 = .ok (.iconst 0, 1) := by decide +kernel
theorem d_L_law_595 : decode b_L_law 595 = .ok (.ireturn, 1) := by decide +kernel
theorem d_L_law_596 : decode b_L_law 596 = .ok (.iload 5, 2) := by decide +kernel
theorem d_L_law_598 : decode b_L_law 598 = .ok (.ifCond .ne 15, 3) := by decide +kernel
theorem d_L_law_601 : decode b_L_law 601 = .ok (.aload_n 3, 1) := by decide +kernel
theorem d_L_law_602 : decode b_L_law 602 = .ok (.iconst 0, 1) := by decide +kernel
theorem d_L_law_603 : decode b_L_law 603 = .ok (.laload, 1) := by decide +kernel
theorem d_L_law_604 : decode b_L_law 604 = .ok (.iload 6, 2) := by decide +kernel
theorem d_L_law_606 : decode b_L_law 606 = .ok (.i2l, 1) := by decide +kernel
theorem d_L_law_607 : decode b_L_law 607 = .ok (.lcmp, 1) := by decide +kernel
theorem d_L_law_608 : decode b_L_law 608 = .ok (.ifCond .eq 5, 3) := by decide +kernel
theorem d_L_law_611 : decode b_L_law 611 = .ok (.iconst 0, 1) := by decide +kernel
theorem d_L_law_612 : decode b_L_law 612 = .ok (.ireturn, 1) := by decide +kernel
theorem d_L_law_613 : decode b_L_law 613 = .ok (.goto 360, 3) := by decide +kernel
theorem d_L_law_616 : decode b_L_law 616 = .ok (.aload_n 1, 1) := by decide +kernel
theorem d_L_law_617 : decode b_L_law 617 = .ok (.aload_n 3, 1) := by decide +kernel
theorem d_L_law_618 : decode b_L_law 618 = .ok (.invokestatic 104, 3) := by decide +kernel
theorem d_L_law_621 : decode b_L_law 621 = .ok (.istore 5, 2) := by decide +kernel
theorem d_L_law_623 : decode b_L_law 623 = .ok (.aload_n 2, 1) := by decide +kernel
theorem d_L_law_624 : decode b_L_law 624 = .ok (.invokevirtual 106, 3) := by decide +kernel
theorem d_L_law_627 : decode b_L_law 627 = .ok (.istore 6, 2) := by decide +kernel
theorem d_L_law_629 : decode b_L_law 629 = .ok (.aload_n 2, 1) := by decide +kernel
theorem d_L_law_630 : decode b_L_law 630 = .ok (.invokevirtual 72, 3) := by decide +kernel
theorem d_L_law_633 : decode b_L_law 633 = .ok (.iload 5, 2) := by decide +kernel
theorem d_L_law_635 : decode b_L_law 635 = .ok (.if_icmp .eq 5, 3) := by decide +kernel
theorem d_L_law_638 : decode b_L_law 638 = .ok (.iconst 0, 1) := by decide +kernel
theorem d_L_law_639 : decode b_L_law 639 = .ok (.ireturn, 1) := by decide +kernel
theorem d_L_law_640 : decode b_L_law 640 = .ok (.iload 5, 2) := by decide +kernel
theorem d_L_law_642 : decode b_L_law 642 = .ok (.ifCond .ne 15, 3) := by decide +kernel
theorem d_L_law_645 : decode b_L_law 645 = .ok (.aload_n 3, 1) := by decide +kernel
theorem d_L_law_646 : decode b_L_law 646 = .ok (.iconst 0, 1) := by decide +kernel
theorem d_L_law_647 : decode b_L_law 647 = .ok (.laload, 1) := by decide +kernel
theorem d_L_law_648 : decode b_L_law 648 = .ok (.iload 6, 2) := by decide +kernel
theorem d_L_law_650 : decode b_L_law 650 = .ok (.i2l, 1) := by decide +kernel
theorem d_L_law_651 : decode b_L_law 651 = .ok (.lcmp, 1) := by decide +kernel
theorem d_L_law_652 : decode b_L_law 652 = .ok (.ifCond .eq 5, 3) := by decide +kernel
theorem d_L_law_655 : decode b_L_law 655 = .ok (.iconst 0, 1) := by decide +kernel
theorem d_L_law_656 : decode b_L_law 656 = .ok (.ireturn, 1) := by decide +kernel
theorem d_L_law_657 : decode b_L_law 657 = .ok (.goto 316, 3) := by decide +kernel
theorem d_L_law_660 : decode b_L_law 660 = .ok (.aload_n 1, 1) := by decide +kernel
theorem d_L_law_661 : decode b_L_law 661 = .ok (.aload_n 0, 1) := by decide +kernel
theorem d_L_law_662 : decode b_L_law 662 = .ok (.iload 4, 2) := by decide +kernel
theorem d_L_law_664 : decode b_L_law 664 = .ok (.iconst 1, 1) := by decide +kernel
theorem d_L_law_665 : decode b_L_law 665 = .ok (.iadd, 1) := by decide +kernel
theorem d_L_law_666 : decode b_L_law 666 = .ok (.iaload, 1) := by decide +kernel
theorem d_L_law_667 : decode b_L_law 667 = .ok (.aload_n 0, 1) := by decide +kernel
theorem d_L_law_668 : decode b_L_law 668 = .ok (.iload 4, 2) := by decide +kernel
theorem d_L_law_670 : decode b_L_law 670 = .ok (.iconst 2, 1) := by decide +kernel
theorem d_L_law_671 : decode b_L_law 671 = .ok (.iadd, 1) := by decide +kernel
theorem d_L_law_672 : decode b_L_law 672 = .ok (.iaload, 1) := by decide +kernel
theorem d_L_law_673 : decode b_L_law 673 = .ok (.aload_n 3, 1) := by decide +kernel
theorem d_L_law_674 : decode b_L_law 674 = .ok (.invokestatic 107, 3) := by decide +kernel
theorem d_L_law_677 : decode b_L_law 677 = .ok (.istore 5, 2) := by decide +kernel
theorem d_L_law_679 : decode b_L_law 679 = .ok (.aload_n 2, 1) := by decide +kernel
theorem d_L_law_680 : decode b_L_law 680 = .ok (.aload_n 0, 1) := by decide +kernel
theorem d_L_law_681 : decode b_L_law 681 = .ok (.iload 4, 2) := by decide +kernel
theorem d_L_law_683 : decode b_L_law 683 = .ok (.iconst 1, 1) := by decide +kernel
theorem d_L_law_684 : decode b_L_law 684 = .ok (.iadd, 1) := by decide +kernel
theorem d_L_law_685 : decode b_L_law 685 = .ok (.iaload, 1) := by decide +kernel
theorem d_L_law_686 : decode b_L_law 686 = .ok (.aload_n 0, 1) := by decide +kernel
theorem d_L_law_687 : decode b_L_law 687 = .ok (.iload 4, 2) := by decide +kernel
theorem d_L_law_689 : decode b_L_law 689 = .ok (.iconst 2, 1) := by decide +kernel
theorem d_L_law_690 : decode b_L_law 690 = .ok (.iadd, 1) := by decide +kernel
theorem d_L_law_691 : decode b_L_law 691 = .ok (.iaload, 1) := by decide +kernel
theorem d_L_law_692 : decode b_L_law 692 = .ok (.invokevirtual 109, 3) := by decide +kernel
theorem d_L_law_695 : decode b_L_law 695 = .ok (.istore 6, 2) := by decide +kernel
theorem d_L_law_697 : decode b_L_law 697 = .ok (.aload_n 2, 1) := by decide +kernel
theorem d_L_law_698 : decode b_L_law 698 = .ok (.invokevirtual 72, 3) := by decide +kernel
theorem d_L_law_701 : decode b_L_law 701 = .ok (.iload 5, 2) := by decide +kernel
theorem d_L_law_703 : decode b_L_law 703 = .ok (.if_icmp .eq 5, 3) := by decide +kernel
theorem d_L_law_706 : decode b_L_law 706 = .ok (.iconst 0, 1) := by decide +kernel
theorem d_L_law_707 : decode b_L_law 707 = .ok (.ireturn, 1) := by decide +kernel
theorem d_L_law_708 : decode b_L_law 708 = .ok (.iload 5, 2) := by decide +kernel
theorem d_L_law_710 : decode b_L_law 710 = .ok (.ifCond .ne 15, 3) := by decide +kernel
theorem d_L_law_713 : decode b_L_law 713 = .ok (.aload_n 3, 1) := by decide +kernel
theorem d_L_law_714 : decode b_L_law 714 = .ok (.iconst 0, 1) := by decide +kernel
theorem d_L_law_715 : decode b_L_law 715 = .ok (.laload, 1) := by decide +kernel
theorem d_L_law_716 : decode b_L_law 716 = .ok (.iload 6, 2) := by decide +kernel
theorem d_L_law_718 : decode b_L_law 718 = .ok (.i2l, 1) := by decide +kernel
theorem d_L_law_719 : decode b_L_law 719 = .ok (.lcmp, 1) := by decide +kernel
theorem d_L_law_720 : decode b_L_law 720 = .ok (.ifCond .eq 5, 3) := by decide +kernel
theorem d_L_law_723 : decode b_L_law 723 = .ok (.iconst 0, 1) := by decide +kernel
theorem d_L_law_724 : decode b_L_law 724 = .ok (.ireturn, 1) := by decide +kernel
theorem d_L_law_725 : decode b_L_law 725 = .ok (.goto 248, 3) := by decide +kernel
theorem d_L_law_728 : decode b_L_law 728 = .ok (.aload_n 1, 1) := by decide +kernel
theorem d_L_law_729 : decode b_L_law 729 = .ok (.aload_n 0, 1) := by decide +kernel
theorem d_L_law_730 : decode b_L_law 730 = .ok (.iload 4, 2) := by decide +kernel
theorem d_L_law_732 : decode b_L_law 732 = .ok (.iconst 1, 1) := by decide +kernel
theorem d_L_law_733 : decode b_L_law 733 = .ok (.iadd, 1) := by decide +kernel
theorem d_L_law_734 : decode b_L_law 734 = .ok (.iaload, 1) := by decide +kernel
theorem d_L_law_735 : decode b_L_law 735 = .ok (.aload_n 0, 1) := by decide +kernel
theorem d_L_law_736 : decode b_L_law 736 = .ok (.iload 4, 2) := by decide +kernel
theorem d_L_law_738 : decode b_L_law 738 = .ok (.iconst 2, 1) := by decide +kernel
theorem d_L_law_739 : decode b_L_law 739 = .ok (.iadd, 1) := by decide +kernel
theorem d_L_law_740 : decode b_L_law 740 = .ok (.iaload, 1) := by decide +kernel
theorem d_L_law_741 : decode b_L_law 741 = .ok (.aload_n 0, 1) := by decide +kernel
theorem d_L_law_742 : decode b_L_law 742 = .ok (.iload 4, 2) := by decide +kernel
theorem d_L_law_744 : decode b_L_law 744 = .ok (.iconst 3, 1) := by decide +kernel
theorem d_L_law_745 : decode b_L_law 745 = .ok (.iadd, 1) := by decide +kernel
theorem d_L_law_746 : decode b_L_law 746 = .ok (.iaload, 1) := by decide +kernel
theorem d_L_law_747 : decode b_L_law 747 = .ok (.aload_n 0, 1) := by decide +kernel
theorem d_L_law_748 : decode b_L_law 748 = .ok (.iload 4, 2) := by decide +kernel
theorem d_L_law_750 : decode b_L_law 750 = .ok (.iconst 4, 1) := by decide +kernel
theorem d_L_law_751 : decode b_L_law 751 = .ok (.iadd, 1) := by decide +kernel
theorem d_L_law_752 : decode b_L_law 752 = .ok (.iaload, 1) := by decide +kernel
theorem d_L_law_753 : decode b_L_law 753 = .ok (.invokevirtual 110, 3) := by decide +kernel
theorem d_L_law_756 : decode b_L_law 756 = .ok (.aload_n 2, 1) := by decide +kernel
theorem d_L_law_757 : decode b_L_law 757 = .ok (.aload_n 0, 1) := by decide +kernel
theorem d_L_law_758 : decode b_L_law 758 = .ok (.iload 4, 2) := by decide +kernel
theorem d_L_law_760 : decode b_L_law 760 = .ok (.iconst 1, 1) := by decide +kernel
theorem d_L_law_761 : decode b_L_law 761 = .ok (.iadd, 1) := by decide +kernel
theorem d_L_law_762 : decode b_L_law 762 = .ok (.iaload, 1) := by decide +kernel
theorem d_L_law_763 : decode b_L_law 763 = .ok (.aload_n 0, 1) := by decide +kernel
theorem d_L_law_764 : decode b_L_law 764 = .ok (.iload 4, 2) := by decide +kernel
theorem d_L_law_766 : decode b_L_law 766 = .ok (.iconst 2, 1) := by decide +kernel
theorem d_L_law_767 : decode b_L_law 767 = .ok (.iadd, 1) := by decide +kernel
theorem d_L_law_768 : decode b_L_law 768 = .ok (.iaload, 1) := by decide +kernel
theorem d_L_law_769 : decode b_L_law 769 = .ok (.aload_n 0, 1) := by decide +kernel
theorem d_L_law_770 : decode b_L_law 770 = .ok (.iload 4, 2) := by decide +kernel
theorem d_L_law_772 : decode b_L_law 772 = .ok (.iconst 3, 1) := by decide +kernel
theorem d_L_law_773 : decode b_L_law 773 = .ok (.iadd, 1) := by decide +kernel
theorem d_L_law_774 : decode b_L_law 774 = .ok (.iaload, 1) := by decide +kernel
theorem d_L_law_775 : decode b_L_law 775 = .ok (.aload_n 0, 1) := by decide +kernel
theorem d_L_law_776 : decode b_L_law 776 = .ok (.iload 4, 2) := by decide +kernel
theorem d_L_law_778 : decode b_L_law 778 = .ok (.iconst 4, 1) := by decide +kernel
theorem d_L_law_779 : decode b_L_law 779 = .ok (.iadd, 1) := by decide +kernel
theorem d_L_law_780 : decode b_L_law 780 = .ok (.iaload, 1) := by decide +kernel
theorem d_L_law_781 : decode b_L_law 781 = .ok (.invokevirtual 114, 3) := by decide +kernel
theorem d_L_law_784 : decode b_L_law 784 = .ok (.if_icmp .eq 189, 3) := by decide +kernel
theorem d_L_law_787 : decode b_L_law 787 = .ok (.iconst 0, 1) := by decide +kernel
theorem d_L_law_788 : decode b_L_law 788 = .ok (.ireturn, 1) := by decide +kernel
theorem d_L_law_789 : decode b_L_law 789 = .ok (.aload_n 1, 1) := by decide +kernel
theorem d_L_law_790 : decode b_L_law 790 = .ok (.aload_n 0, 1) := by decide +kernel
theorem d_L_law_791 : decode b_L_law 791 = .ok (.iload 4, 2) := by decide +kernel
theorem d_L_law_793 : decode b_L_law 793 = .ok (.iconst 1, 1) := by decide +kernel
theorem d_L_law_794 : decode b_L_law 794 = .ok (.iadd, 1) := by decide +kernel
theorem d_L_law_795 : decode b_L_law 795 = .ok (.iaload, 1) := by decide +kernel
theorem d_L_law_796 : decode b_L_law 796 = .ok (.aload_n 0, 1) := by decide +kernel
theorem d_L_law_797 : decode b_L_law 797 = .ok (.iload 4, 2) := by decide +kernel
theorem d_L_law_799 : decode b_L_law 799 = .ok (.iconst 2, 1) := by decide +kernel
theorem d_L_law_800 : decode b_L_law 800 = .ok (.iadd, 1) := by decide +kernel
theorem d_L_law_801 : decode b_L_law 801 = .ok (.iaload, 1) := by decide +kernel
theorem d_L_law_802 : decode b_L_law 802 = .ok (.aload_n 0, 1) := by decide +kernel
theorem d_L_law_803 : decode b_L_law 803 = .ok (.iload 4, 2) := by decide +kernel
theorem d_L_law_805 : decode b_L_law 805 = .ok (.iconst 3, 1) := by decide +kernel
theorem d_L_law_806 : decode b_L_law 806 = .ok (.iadd, 1) := by decide +kernel
theorem d_L_law_807 : decode b_L_law 807 = .ok (.iaload, 1) := by decide +kernel
theorem d_L_law_808 : decode b_L_law 808 = .ok (.aload_n 0, 1) := by decide +kernel
theorem d_L_law_809 : decode b_L_law 809 = .ok (.iload 4, 2) := by decide +kernel
theorem d_L_law_811 : decode b_L_law 811 = .ok (.iconst 4, 1) := by decide +kernel
theorem d_L_law_812 : decode b_L_law 812 = .ok (.iadd, 1) := by decide +kernel
theorem d_L_law_813 : decode b_L_law 813 = .ok (.iaload, 1) := by decide +kernel
theorem d_L_law_814 : decode b_L_law 814 = .ok (.aload_n 3, 1) := by decide +kernel
theorem d_L_law_815 : decode b_L_law 815 = .ok (.invokestatic 115, 3) := by decide +kernel
theorem d_L_law_818 : decode b_L_law 818 = .ok (.istore 5, 2) := by decide +kernel
theorem d_L_law_820 : decode b_L_law 820 = .ok (.aload_n 2, 1) := by decide +kernel
theorem d_L_law_821 : decode b_L_law 821 = .ok (.aload_n 0, 1) := by decide +kernel
theorem d_L_law_822 : decode b_L_law 822 = .ok (.iload 4, 2) := by decide +kernel
theorem d_L_law_824 : decode b_L_law 824 = .ok (.iconst 1, 1) := by decide +kernel
theorem d_L_law_825 : decode b_L_law 825 = .ok (.iadd, 1) := by decide +kernel
theorem d_L_law_826 : decode b_L_law 826 = .ok (.iaload, 1) := by decide +kernel
theorem d_L_law_827 : decode b_L_law 827 = .ok (.aload_n 0, 1) := by decide +kernel
theorem d_L_law_828 : decode b_L_law 828 = .ok (.iload 4, 2) := by decide +kernel
theorem d_L_law_830 : decode b_L_law 830 = .ok (.iconst 2, 1) := by decide +kernel
theorem d_L_law_831 : decode b_L_law 831 = .ok (.iadd, 1) := by decide +kernel
theorem d_L_law_832 : decode b_L_law 832 = .ok (.iaload, 1) := by decide +kernel
theorem d_L_law_833 : decode b_L_law 833 = .ok (.aload_n 0, 1) := by decide +kernel
theorem d_L_law_834 : decode b_L_law 834 = .ok (.iload 4, 2) := by decide +kernel
theorem d_L_law_836 : decode b_L_law 836 = .ok (.iconst 3, 1) := by decide +kernel
theorem d_L_law_837 : decode b_L_law 837 = .ok (.iadd, 1) := by decide +kernel
theorem d_L_law_838 : decode b_L_law 838 = .ok (.iaload, 1) := by decide +kernel
theorem d_L_law_839 : decode b_L_law 839 = .ok (.aload_n 0, 1) := by decide +kernel
theorem d_L_law_840 : decode b_L_law 840 = .ok (.iload 4, 2) := by decide +kernel
theorem d_L_law_842 : decode b_L_law 842 = .ok (.iconst 4, 1) := by decide +kernel
theorem d_L_law_843 : decode b_L_law 843 = .ok (.iadd, 1) := by decide +kernel
theorem d_L_law_844 : decode b_L_law 844 = .ok (.iaload, 1) := by decide +kernel
theorem d_L_law_845 : decode b_L_law 845 = .ok (.invokevirtual 117, 3) := by decide +kernel
theorem d_L_law_848 : decode b_L_law 848 = .ok (.istore 6, 2) := by decide +kernel
theorem d_L_law_850 : decode b_L_law 850 = .ok (.aload_n 2, 1) := by decide +kernel
theorem d_L_law_851 : decode b_L_law 851 = .ok (.invokevirtual 72, 3) := by decide +kernel
theorem d_L_law_854 : decode b_L_law 854 = .ok (.iload 5, 2) := by decide +kernel
theorem d_L_law_856 : decode b_L_law 856 = .ok (.if_icmp .eq 5, 3) := by decide +kernel
theorem d_L_law_859 : decode b_L_law 859 = .ok (.iconst 0, 1) := by decide +kernel
theorem d_L_law_860 : decode b_L_law 860 = .ok (.ireturn, 1) := by decide +kernel
theorem d_L_law_861 : decode b_L_law 861 = .ok (.iload 5, 2) := by decide +kernel
theorem d_L_law_863 : decode b_L_law 863 = .ok (.ifCond .ne 15, 3) := by decide +kernel
theorem d_L_law_866 : decode b_L_law 866 = .ok (.aload_n 3, 1) := by decide +kernel
theorem d_L_law_867 : decode b_L_law 867 = .ok (.iconst 0, 1) := by decide +kernel
theorem d_L_law_868 : decode b_L_law 868 = .ok (.laload, 1) := by decide +kernel
theorem d_L_law_869 : decode b_L_law 869 = .ok (.iload 6, 2) := by decide +kernel
theorem d_L_law_871 : decode b_L_law 871 = .ok (.i2l, 1) := by decide +kernel
theorem d_L_law_872 : decode b_L_law 872 = .ok (.lcmp, 1) := by decide +kernel
theorem d_L_law_873 : decode b_L_law 873 = .ok (.ifCond .eq 5, 3) := by decide +kernel
theorem d_L_law_876 : decode b_L_law 876 = .ok (.iconst 0, 1) := by decide +kernel
theorem d_L_law_877 : decode b_L_law 877 = .ok (.ireturn, 1) := by decide +kernel
theorem d_L_law_878 : decode b_L_law 878 = .ok (.goto 95, 3) := by decide +kernel
theorem d_L_law_881 : decode b_L_law 881 = .ok (.aload_n 1, 1) := by decide +kernel
theorem d_L_law_882 : decode b_L_law 882 = .ok (.aload_n 0, 1) := by decide +kernel
theorem d_L_law_883 : decode b_L_law 883 = .ok (.iload 4, 2) := by decide +kernel
theorem d_L_law_885 : decode b_L_law 885 = .ok (.iconst 1, 1) := by decide +kernel
theorem d_L_law_886 : decode b_L_law 886 = .ok (.iadd, 1) := by decide +kernel
theorem d_L_law_887 : decode b_L_law 887 = .ok (.iaload, 1) := by decide +kernel
theorem d_L_law_888 : decode b_L_law 888 = .ok (.aload_n 0, 1) := by decide +kernel
theorem d_L_law_889 : decode b_L_law 889 = .ok (.iload 4, 2) := by decide +kernel
theorem d_L_law_891 : decode b_L_law 891 = .ok (.iconst 2, 1) := by decide +kernel
theorem d_L_law_892 : decode b_L_law 892 = .ok (.iadd, 1) := by decide +kernel
theorem d_L_law_893 : decode b_L_law 893 = .ok (.iaload, 1) := by decide +kernel
theorem d_L_law_894 : decode b_L_law 894 = .ok (.aload_n 0, 1) := by decide +kernel
theorem d_L_law_895 : decode b_L_law 895 = .ok (.iload 4, 2) := by decide +kernel
theorem d_L_law_897 : decode b_L_law 897 = .ok (.iconst 3, 1) := by decide +kernel
theorem d_L_law_898 : decode b_L_law 898 = .ok (.iadd, 1) := by decide +kernel
theorem d_L_law_899 : decode b_L_law 899 = .ok (.iaload, 1) := by decide +kernel
theorem d_L_law_900 : decode b_L_law 900 = .ok (.aload_n 0, 1) := by decide +kernel
theorem d_L_law_901 : decode b_L_law 901 = .ok (.iload 4, 2) := by decide +kernel
theorem d_L_law_903 : decode b_L_law 903 = .ok (.iconst 4, 1) := by decide +kernel
theorem d_L_law_904 : decode b_L_law 904 = .ok (.iadd, 1) := by decide +kernel
theorem d_L_law_905 : decode b_L_law 905 = .ok (.iaload, 1) := by decide +kernel
theorem d_L_law_906 : decode b_L_law 906 = .ok (.aload_n 3, 1) := by decide +kernel
theorem d_L_law_907 : decode b_L_law 907 = .ok (.invokestatic 118, 3) := by decide +kernel
theorem d_L_law_910 : decode b_L_law 910 = .ok (.istore 5, 2) := by decide +kernel
theorem d_L_law_912 : decode b_L_law 912 = .ok (.aload_n 2, 1) := by decide +kernel
theorem d_L_law_913 : decode b_L_law 913 = .ok (.aload_n 0, 1) := by decide +kernel
theorem d_L_law_914 : decode b_L_law 914 = .ok (.iload 4, 2) := by decide +kernel
theorem d_L_law_916 : decode b_L_law 916 = .ok (.iconst 1, 1) := by decide +kernel
theorem d_L_law_917 : decode b_L_law 917 = .ok (.iadd, 1) := by decide +kernel
theorem d_L_law_918 : decode b_L_law 918 = .ok (.iaload, 1) := by decide +kernel
theorem d_L_law_919 : decode b_L_law 919 = .ok (.aload_n 0, 1) := by decide +kernel
theorem d_L_law_920 : decode b_L_law 920 = .ok (.iload 4, 2) := by decide +kernel
theorem d_L_law_922 : decode b_L_law 922 = .ok (.iconst 2, 1) := by decide +kernel
theorem d_L_law_923 : decode b_L_law 923 = .ok (.iadd, 1) := by decide +kernel
theorem d_L_law_924 : decode b_L_law 924 = .ok (.iaload, 1) := by decide +kernel
theorem d_L_law_925 : decode b_L_law 925 = .ok (.aload_n 0, 1) := by decide +kernel
theorem d_L_law_926 : decode b_L_law 926 = .ok (.iload 4, 2) := by decide +kernel
theorem d_L_law_928 : decode b_L_law 928 = .ok (.iconst 3, 1) := by decide +kernel
theorem d_L_law_929 : decode b_L_law 929 = .ok (.iadd, 1) := by decide +kernel
theorem d_L_law_930 : decode b_L_law 930 = .ok (.iaload, 1) := by decide +kernel
theorem d_L_law_931 : decode b_L_law 931 = .ok (.aload_n 0, 1) := by decide +kernel
theorem d_L_law_932 : decode b_L_law 932 = .ok (.iload 4, 2) := by decide +kernel
theorem d_L_law_934 : decode b_L_law 934 = .ok (.iconst 4, 1) := by decide +kernel
theorem d_L_law_935 : decode b_L_law 935 = .ok (.iadd, 1) := by decide +kernel
theorem d_L_law_936 : decode b_L_law 936 = .ok (.iaload, 1) := by decide +kernel
theorem d_L_law_937 : decode b_L_law 937 = .ok (.invokevirtual 120, 3) := by decide +kernel
theorem d_L_law_940 : decode b_L_law 940 = .ok (.istore 6, 2) := by decide +kernel
theorem d_L_law_942 : decode b_L_law 942 = .ok (.aload_n 2, 1) := by decide +kernel
theorem d_L_law_943 : decode b_L_law 943 = .ok (.invokevirtual 72, 3) := by decide +kernel
theorem d_L_law_946 : decode b_L_law 946 = .ok (.iload 5, 2) := by decide +kernel
theorem d_L_law_948 : decode b_L_law 948 = .ok (.if_icmp .eq 5, 3) := by decide +kernel
theorem d_L_law_951 : decode b_L_law 951 = .ok (.iconst 0, 1) := by decide +kernel
theorem d_L_law_952 : decode b_L_law 952 = .ok (.ireturn, 1) := by decide +kernel
theorem d_L_law_953 : decode b_L_law 953 = .ok (.iload 5, 2) := by decide +kernel
theorem d_L_law_955 : decode b_L_law 955 = .ok (.ifCond .ne 15, 3) := by decide +kernel
theorem d_L_law_958 : decode b_L_law 958 = .ok (.aload_n 3, 1) := by decide +kernel
theorem d_L_law_959 : decode b_L_law 959 = .ok (.iconst 0, 1) := by decide +kernel
theorem d_L_law_960 : decode b_L_law 960 = .ok (.laload, 1) := by decide +kernel
theorem d_L_law_961 : decode b_L_law 961 = .ok (.iload 6, 2) := by decide +kernel
theorem d_L_law_963 : decode b_L_law 963 = .ok (.i2l, 1) := by decide +kernel
theorem d_L_law_964 : decode b_L_law 964 = .ok (.lcmp, 1) := by decide +kernel
theorem d_L_law_965 : decode b_L_law 965 = .ok (.ifCond .eq 5, 3) := by decide +kernel
theorem d_L_law_968 : decode b_L_law 968 = .ok (.iconst 0, 1) := by decide +kernel
theorem d_L_law_969 : decode b_L_law 969 = .ok (.ireturn, 1) := by decide +kernel
theorem d_L_law_970 : decode b_L_law 970 = .ok (.goto 3, 3) := by decide +kernel
theorem d_L_law_973 : decode b_L_law 973 = .ok (.iinc 4 5, 3) := by decide +kernel
theorem d_L_law_976 : decode b_L_law 976 = .ok (.goto (-943), 3) := by decide +kernel
theorem d_L_law_979 : decode b_L_law 979 = .ok (.iconst 1, 1) := by decide +kernel
theorem d_L_law_980 : decode b_L_law 980 = .ok (.ireturn, 1) := by decide +kernel
theorem d_L_least_0 : decode b_L_least 0 = .ok (.aload 5, 2) := by decide +kernel
theorem d_L_least_2 : decode b_L_least 2 = .ok (.iconst 0, 1) := by decide +kernel
theorem d_L_least_3 : decode b_L_least 3 = .ok (.aload_n 0, 1) := by decide +kernel
theorem d_L_least_4 : decode b_L_least 4 = .ok (.iload_n 1, 1) := by decide +kernel
theorem d_L_least_5 : decode b_L_least 5 = .ok (.iload_n 2, 1) := by decide +kernel
theorem d_L_least_6 : decode b_L_least 6 = .ok (.iload_n 3, 1) := by decide +kernel
theorem d_L_least_7 : decode b_L_least 7 = .ok (.iload 4, 2) := by decide +kernel
theorem d_L_least_9 : decode b_L_least 9 = .ok (.invokevirtual 54, 3) := by decide +kernel
theorem d_L_least_12 : decode b_L_least 12 = .ok (.i2l, 1) := by decide +kernel
theorem d_L_least_13 : decode b_L_least 13 = .ok (.lastore, 1) := by decide +kernel
theorem d_L_least_14 : decode b_L_least 14 = .ok (.goto 11, 3) := by decide +kernel
theorem d_L_least_17 : decode b_L_least 17 = .ok (.astore 6, 2) := by decide +kernel
theorem d_L_least_19 : decode b_L_least 19 = .ok (.iconst 1, 1) := by decide +kernel
theorem d_L_least_20 : decode b_L_least 20 = .ok (.ireturn, 1) := by decide +kernel
theorem d_L_least_21 : decode b_L_least 21 = .ok (.astore 6, 2) := by decide +kernel
theorem d_L_least_23 : decode b_L_least 23 = .ok (.iconst 2, 1) := by decide +kernel
theorem d_L_least_24 : decode b_L_least 24 = .ok (.ireturn, 1) := by decide +kernel
theorem d_L_least_25 : decode b_L_least 25 = .ok (.iconst 0, 1) := by decide +kernel
theorem d_L_least_26 : decode b_L_least 26 = .ok (.ireturn, 1) := by decide +kernel
theorem d_L_parts_0 : decode b_L_parts 0 = .ok (.aload 5, 2) := by decide +kernel
theorem d_L_parts_2 : decode b_L_parts 2 = .ok (.iconst 0, 1) := by decide +kernel
theorem d_L_parts_3 : decode b_L_parts 3 = .ok (.aload_n 0, 1) := by decide +kernel
theorem d_L_parts_4 : decode b_L_parts 4 = .ok (.iload_n 1, 1) := by decide +kernel
theorem d_L_parts_5 : decode b_L_parts 5 = .ok (.iload_n 2, 1) := by decide +kernel
theorem d_L_parts_6 : decode b_L_parts 6 = .ok (.iload_n 3, 1) := by decide +kernel
theorem d_L_parts_7 : decode b_L_parts 7 = .ok (.iload 4, 2) := by decide +kernel
theorem d_L_parts_9 : decode b_L_parts 9 = .ok (.invokevirtual 51, 3) := by decide +kernel
theorem d_L_parts_12 : decode b_L_parts 12 = .ok (.i2l, 1) := by decide +kernel
theorem d_L_parts_13 : decode b_L_parts 13 = .ok (.lastore, 1) := by decide +kernel
theorem d_L_parts_14 : decode b_L_parts 14 = .ok (.goto 7, 3) := by decide +kernel
theorem d_L_parts_17 : decode b_L_parts 17 = .ok (.astore 6, 2) := by decide +kernel
theorem d_L_parts_19 : decode b_L_parts 19 = .ok (.iconst 1, 1) := by decide +kernel
theorem d_L_parts_20 : decode b_L_parts 20 = .ok (.ireturn, 1) := by decide +kernel
theorem d_L_parts_21 : decode b_L_parts 21 = .ok (.iconst 0, 1) := by decide +kernel
theorem d_L_parts_22 : decode b_L_parts 22 = .ok (.ireturn, 1) := by decide +kernel
theorem d_L_point_0 : decode b_L_point 0 = .ok (.aload_n 3, 1) := by decide +kernel
theorem d_L_point_1 : decode b_L_point 1 = .ok (.iconst 0, 1) := by decide +kernel
theorem d_L_point_2 : decode b_L_point 2 = .ok (.aload_n 0, 1) := by decide +kernel
theorem d_L_point_3 : decode b_L_point 3 = .ok (.iload_n 1, 1) := by decide +kernel
theorem d_L_point_4 : decode b_L_point 4 = .ok (.iload_n 2, 1) := by decide +kernel
theorem d_L_point_5 : decode b_L_point 5 = .ok (.invokevirtual 48, 3) := by decide +kernel
theorem d_L_point_8 : decode b_L_point 8 = .ok (.i2l, 1) := by decide +kernel
theorem d_L_point_9 : decode b_L_point 9 = .ok (.lastore, 1) := by decide +kernel
theorem d_L_point_10 : decode b_L_point 10 = .ok (.goto 11, 3) := by decide +kernel
theorem d_L_point_13 : decode b_L_point 13 = .ok (.astore 4, 2) := by decide +kernel
theorem d_L_point_15 : decode b_L_point 15 = .ok (.iconst 1, 1) := by decide +kernel
theorem d_L_point_16 : decode b_L_point 16 = .ok (.ireturn, 1) := by decide +kernel
theorem d_L_point_17 : decode b_L_point 17 = .ok (.astore 4, 2) := by decide +kernel
theorem d_L_point_19 : decode b_L_point 19 = .ok (.iconst 2, 1) := by decide +kernel
theorem d_L_point_20 : decode b_L_point 20 = .ok (.ireturn, 1) := by decide +kernel
theorem d_L_point_21 : decode b_L_point 21 = .ok (.iconst 0, 1) := by decide +kernel
theorem d_L_point_22 : decode b_L_point 22 = .ok (.ireturn, 1) := by decide +kernel
theorem d_L_ray_0 : decode b_L_ray 0 = .ok (.aload_n 3, 1) := by decide +kernel
theorem d_L_ray_1 : decode b_L_ray 1 = .ok (.iconst 0, 1) := by decide +kernel
theorem d_L_ray_2 : decode b_L_ray 2 = .ok (.aload_n 0, 1) := by decide +kernel
theorem d_L_ray_3 : decode b_L_ray 3 = .ok (.iload_n 1, 1) := by decide +kernel
theorem d_L_ray_4 : decode b_L_ray 4 = .ok (.iload_n 2, 1) := by decide +kernel
theorem d_L_ray_5 : decode b_L_ray 5 = .ok (.invokevirtual 31, 3) := by decide +kernel
theorem d_L_ray_8 : decode b_L_ray 8 = .ok (.i2l, 1) := by decide +kernel
theorem d_L_ray_9 : decode b_L_ray 9 = .ok (.lastore, 1) := by decide +kernel
theorem d_L_ray_10 : decode b_L_ray 10 = .ok (.goto 11, 3) := by decide +kernel
theorem d_L_ray_13 : decode b_L_ray 13 = .ok (.astore 4, 2) := by decide +kernel
theorem d_L_ray_15 : decode b_L_ray 15 = .ok (.iconst 1, 1) := by decide +kernel
theorem d_L_ray_16 : decode b_L_ray 16 = .ok (.ireturn, 1) := by decide +kernel
theorem d_L_ray_17 : decode b_L_ray 17 = .ok (.astore 4, 2) := by decide +kernel
theorem d_L_ray_19 : decode b_L_ray 19 = .ok (.iconst 2, 1) := by decide +kernel
theorem d_L_ray_20 : decode b_L_ray 20 = .ok (.ireturn, 1) := by decide +kernel
theorem d_L_ray_21 : decode b_L_ray 21 = .ok (.iconst 0, 1) := by decide +kernel
theorem d_L_ray_22 : decode b_L_ray 22 = .ok (.ireturn, 1) := by decide +kernel
theorem d_L_rays_0 : decode b_L_rays 0 = .ok (.aload_n 1, 1) := by decide +kernel
theorem d_L_rays_1 : decode b_L_rays 1 = .ok (.iconst 0, 1) := by decide +kernel
theorem d_L_rays_2 : decode b_L_rays 2 = .ok (.aload_n 0, 1) := by decide +kernel
theorem d_L_rays_3 : decode b_L_rays 3 = .ok (.invokevirtual 27, 3) := by decide +kernel
theorem d_L_rays_6 : decode b_L_rays 6 = .ok (.i2l, 1) := by decide +kernel
theorem d_L_rays_7 : decode b_L_rays 7 = .ok (.lastore, 1) := by decide +kernel
theorem d_L_rays_8 : decode b_L_rays 8 = .ok (.goto 6, 3) := by decide +kernel
theorem d_L_rays_11 : decode b_L_rays 11 = .ok (.astore_n 2, 1) := by decide +kernel
theorem d_L_rays_12 : decode b_L_rays 12 = .ok (.iconst 1, 1) := by decide +kernel
theorem d_L_rays_13 : decode b_L_rays 13 = .ok (.ireturn, 1) := by decide +kernel
theorem d_L_rays_14 : decode b_L_rays 14 = .ok (.iconst 0, 1) := by decide +kernel
theorem d_L_rays_15 : decode b_L_rays 15 = .ok (.ireturn, 1) := by decide +kernel
theorem d_L_row_0 : decode b_L_row 0 = .ok (.aload_n 3, 1) := by decide +kernel
theorem d_L_row_1 : decode b_L_row 1 = .ok (.iconst 0, 1) := by decide +kernel
theorem d_L_row_2 : decode b_L_row 2 = .ok (.aload_n 0, 1) := by decide +kernel
theorem d_L_row_3 : decode b_L_row 3 = .ok (.iload_n 1, 1) := by decide +kernel
theorem d_L_row_4 : decode b_L_row 4 = .ok (.iload_n 2, 1) := by decide +kernel
theorem d_L_row_5 : decode b_L_row 5 = .ok (.invokevirtual 23, 3) := by decide +kernel
theorem d_L_row_8 : decode b_L_row 8 = .ok (.i2l, 1) := by decide +kernel
theorem d_L_row_9 : decode b_L_row 9 = .ok (.lastore, 1) := by decide +kernel
theorem d_L_row_10 : decode b_L_row 10 = .ok (.goto 7, 3) := by decide +kernel
theorem d_L_row_13 : decode b_L_row 13 = .ok (.astore 4, 2) := by decide +kernel
theorem d_L_row_15 : decode b_L_row 15 = .ok (.iconst 1, 1) := by decide +kernel
theorem d_L_row_16 : decode b_L_row 16 = .ok (.ireturn, 1) := by decide +kernel
theorem d_L_row_17 : decode b_L_row 17 = .ok (.iconst 0, 1) := by decide +kernel
theorem d_L_row_18 : decode b_L_row 18 = .ok (.ireturn, 1) := by decide +kernel
theorem d_L_size_0 : decode b_L_size 0 = .ok (.aload_n 1, 1) := by decide +kernel
theorem d_L_size_1 : decode b_L_size 1 = .ok (.iconst 0, 1) := by decide +kernel
theorem d_L_size_2 : decode b_L_size 2 = .ok (.aload_n 0, 1) := by decide +kernel
theorem d_L_size_3 : decode b_L_size 3 = .ok (.invokevirtual 34, 3) := by decide +kernel
theorem d_L_size_6 : decode b_L_size 6 = .ok (.i2l, 1) := by decide +kernel
theorem d_L_size_7 : decode b_L_size 7 = .ok (.lastore, 1) := by decide +kernel
theorem d_L_size_8 : decode b_L_size 8 = .ok (.goto 6, 3) := by decide +kernel
theorem d_L_size_11 : decode b_L_size 11 = .ok (.astore_n 2, 1) := by decide +kernel
theorem d_L_size_12 : decode b_L_size 12 = .ok (.iconst 1, 1) := by decide +kernel
theorem d_L_size_13 : decode b_L_size 13 = .ok (.ireturn, 1) := by decide +kernel
theorem d_L_size_14 : decode b_L_size 14 = .ok (.iconst 0, 1) := by decide +kernel
theorem d_L_size_15 : decode b_L_size 15 = .ok (.ireturn, 1) := by decide +kernel
