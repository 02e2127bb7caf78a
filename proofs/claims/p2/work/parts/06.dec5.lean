-- decode rows, by wip/tools/decodes.py
theorem d_L_add_0 : decode b_L_add 0 = .ok (.aload 5, 2) := by decide +kernel
theorem d_L_add_2 : decode b_L_add 2 = .ok (.iconst 0, 1) := by decide +kernel
theorem d_L_add_3 : decode b_L_add 3 = .ok (.aload_n 0, 1) := by decide +kernel
theorem d_L_add_4 : decode b_L_add 4 = .ok (.iload_n 1, 1) := by decide +kernel
theorem d_L_add_5 : decode b_L_add 5 = .ok (.iload_n 2, 1) := by decide +kernel
theorem d_L_add_6 : decode b_L_add 6 = .ok (.iload_n 3, 1) := by decide +kernel
theorem d_L_add_7 : decode b_L_add 7 = .ok (.iload 4, 2) := by decide +kernel
theorem d_L_add_9 : decode b_L_add 9 = .ok (.invokevirtual 7, 3) := by decide +kernel
theorem d_L_add_12 : decode b_L_add 12 = .ok (.i2l, 1) := by decide +kernel
theorem d_L_add_13 : decode b_L_add 13 = .ok (.lastore, 1) := by decide +kernel
theorem d_L_add_14 : decode b_L_add 14 = .ok (.goto 11, 3) := by decide +kernel
theorem d_L_add_17 : decode b_L_add 17 = .ok (.astore 6, 2) := by decide +kernel
theorem d_L_add_19 : decode b_L_add 19 = .ok (.iconst 1, 1) := by decide +kernel
theorem d_L_add_20 : decode b_L_add 20 = .ok (.ireturn, 1) := by decide +kernel
theorem d_L_add_21 : decode b_L_add 21 = .ok (.astore 6, 2) := by decide +kernel
theorem d_L_add_23 : decode b_L_add 23 = .ok (.iconst 2, 1) := by decide +kernel
theorem d_L_add_24 : decode b_L_add 24 = .ok (.ireturn, 1) := by decide +kernel
theorem d_L_add_25 : decode b_L_add 25 = .ok (.iconst 0, 1) := by decide +kernel
theorem d_L_add_26 : decode b_L_add 26 = .ok (.ireturn, 1) := by decide +kernel
theorem d_L_basis_0 : decode b_L_basis 0 = .ok (.aload_n 1, 1) := by decide +kernel
theorem d_L_basis_1 : decode b_L_basis 1 = .ok (.iconst 0, 1) := by decide +kernel
theorem d_L_basis_2 : decode b_L_basis 2 = .ok (.aload_n 0, 1) := by decide +kernel
theorem d_L_basis_3 : decode b_L_basis 3 = .ok (.invokevirtual 45, 3) := by decide +kernel
theorem d_L_basis_6 : decode b_L_basis 6 = .ok (.i2l, 1) := by decide +kernel
theorem d_L_basis_7 : decode b_L_basis 7 = .ok (.lastore, 1) := by decide +kernel
theorem d_L_basis_8 : decode b_L_basis 8 = .ok (.goto 6, 3) := by decide +kernel
theorem d_L_basis_11 : decode b_L_basis 11 = .ok (.astore_n 2, 1) := by decide +kernel
theorem d_L_basis_12 : decode b_L_basis 12 = .ok (.iconst 1, 1) := by decide +kernel
theorem d_L_basis_13 : decode b_L_basis 13 = .ok (.ireturn, 1) := by decide +kernel
theorem d_L_basis_14 : decode b_L_basis 14 = .ok (.iconst 0, 1) := by decide +kernel
theorem d_L_basis_15 : decode b_L_basis 15 = .ok (.ireturn, 1) := by decide +kernel
theorem d_L_bounds_0 : decode b_L_bounds 0 = .ok (.aload_n 2, 1) := by decide +kernel
theorem d_L_bounds_1 : decode b_L_bounds 1 = .ok (.iconst 0, 1) := by decide +kernel
theorem d_L_bounds_2 : decode b_L_bounds 2 = .ok (.aload_n 0, 1) := by decide +kernel
theorem d_L_bounds_3 : decode b_L_bounds 3 = .ok (.iload_n 1, 1) := by decide +kernel
theorem d_L_bounds_4 : decode b_L_bounds 4 = .ok (.invokevirtual 37, 3) := by decide +kernel
theorem d_L_bounds_7 : decode b_L_bounds 7 = .ok (.ifCond .eq 7, 3) := by decide +kernel
theorem d_L_bounds_10 : decode b_L_bounds 10 = .ok (.lconst 1, 1) := by decide +kernel
theorem d_L_bounds_11 : decode b_L_bounds 11 = .ok (.goto 4, 3) := by decide +kernel
theorem d_L_bounds_14 : decode b_L_bounds 14 = .ok (.lconst 0, 1) := by decide +kernel
theorem d_L_bounds_15 : decode b_L_bounds 15 = .ok (.lastore, 1) := by decide +kernel
theorem d_L_bounds_16 : decode b_L_bounds 16 = .ok (.goto 9, 3) := by decide +kernel
theorem d_L_bounds_19 : decode b_L_bounds 19 = .ok (.astore_n 3, 1) := by decide +kernel
theorem d_L_bounds_20 : decode b_L_bounds 20 = .ok (.iconst 1, 1) := by decide +kernel
theorem d_L_bounds_21 : decode b_L_bounds 21 = .ok (.ireturn, 1) := by decide +kernel
theorem d_L_bounds_22 : decode b_L_bounds 22 = .ok (.astore_n 3, 1) := by decide +kernel
theorem d_L_bounds_23 : decode b_L_bounds 23 = .ok (.iconst 2, 1) := by decide +kernel
theorem d_L_bounds_24 : decode b_L_bounds 24 = .ok (.ireturn, 1) := by decide +kernel
theorem d_L_bounds_25 : decode b_L_bounds 25 = .ok (.iconst 0, 1) := by decide +kernel
theorem d_L_bounds_26 : decode b_L_bounds 26 = .ok (.ireturn, 1) := by decide +kernel
theorem d_L_cell_0 : decode b_L_cell 0 = .ok (.iload_n 1, 1) := by decide +kernel
theorem d_L_cell_1 : decode b_L_cell 1 = .ok (.aload_n 0, 1) := by decide +kernel
theorem d_L_cell_2 : decode b_L_cell 2 = .ok (.arraylength, 1) := by decide +kernel
theorem d_L_cell_3 : decode b_L_cell 3 = .ok (.if_icmp .ge 9, 3) := by decide +kernel
theorem d_L_cell_6 : decode b_L_cell 6 = .ok (.aload_n 0, 1) := by decide +kernel
theorem d_L_cell_7 : decode b_L_cell 7 = .ok (.iload_n 1, 1) := by decide +kernel
theorem d_L_cell_8 : decode b_L_cell 8 = .ok (.iaload, 1) := by decide +kernel
theorem d_L_cell_9 : decode b_L_cell 9 = .ok (.goto 4, 3) := by decide +kernel
theorem d_L_cell_12 : decode b_L_cell 12 = .ok (.iconst 0, 1) := by decide +kernel
theorem d_L_cell_13 : decode b_L_cell 13 = .ok (.ireturn, 1) := by decide +kernel
theorem d_L_drop_0 : decode b_L_drop 0 = .ok (.aload_n 0, 1) := by decide +kernel
theorem d_L_drop_1 : decode b_L_drop 1 = .ok (.iload_n 1, 1) := by decide +kernel
theorem d_L_drop_2 : decode b_L_drop 2 = .ok (.invokevirtual 17, 3) := by decide +kernel
theorem d_L_drop_5 : decode b_L_drop 5 = .ok (.goto 6, 3) := by decide +kernel
theorem d_L_drop_8 : decode b_L_drop 8 = .ok (.astore_n 2, 1) := by decide +kernel
theorem d_L_drop_9 : decode b_L_drop 9 = .ok (.iconst 1, 1) := by decide +kernel
theorem d_L_drop_10 : decode b_L_drop 10 = .ok (.ireturn, 1) := by decide +kernel
theorem d_L_drop_11 : decode b_L_drop 11 = .ok (.iconst 0, 1) := by decide +kernel
theorem d_L_drop_12 : decode b_L_drop 12 = .ok (.ireturn, 1) := by decide +kernel
theorem d_L_faces_0 : decode b_L_faces 0 = .ok (.aload_n 2, 1) := by decide +kernel
theorem d_L_faces_1 : decode b_L_faces 1 = .ok (.iconst 0, 1) := by decide +kernel
theorem d_L_faces_2 : decode b_L_faces 2 = .ok (.aload_n 0, 1) := by decide +kernel
theorem d_L_faces_3 : decode b_L_faces 3 = .ok (.iload_n 1, 1) := by decide +kernel
theorem d_L_faces_4 : decode b_L_faces 4 = .ok (.invokevirtual 41, 3) := by decide +kernel
theorem d_L_faces_7 : decode b_L_faces 7 = .ok (.i2l, 1) := by decide +kernel
theorem d_L_faces_8 : decode b_L_faces 8 = .ok (.lastore, 1) := by decide +kernel
theorem d_L_faces_9 : decode b_L_faces 9 = .ok (.goto 6, 3) := by decide +kernel
theorem d_L_faces_12 : decode b_L_faces 12 = .ok (.astore_n 3, 1) := by decide +kernel
theorem d_L_faces_13 : decode b_L_faces 13 = .ok (.iconst 1, 1) := by decide +kernel
theorem d_L_faces_14 : decode b_L_faces 14 = .ok (.ireturn, 1) := by decide +kernel
theorem d_L_faces_15 : decode b_L_faces 15 = .ok (.iconst 0, 1) := by decide +kernel
theorem d_L_faces_16 : decode b_L_faces 16 = .ok (.ireturn, 1) := by decide +kernel
theorem d_L_law_0 : decode b_L_law 0 = .ok (.new 8, 3) := by decide +kernel
theorem d_L_law_3 : decode b_L_law 3 = .ok (.dup, 1) := by decide +kernel
theorem d_L_law_4 : decode b_L_law 4 = .ok (.aload_n 0, 1) := by decide +kernel
theorem d_L_law_5 : decode b_L_law 5 = .ok (.iconst 0, 1) := by decide +kernel
theorem d_L_law_6 : decode b_L_law 6 = .ok (.invokestatic 57, 3) := by decide +kernel
theorem d_L_law_9 : decode b_L_law 9 = .ok (.invokespecial 63, 3) := by decide +kernel
theorem d_L_law_12 : decode b_L_law 12 = .ok (.astore_n 1, 1) := by decide +kernel
theorem d_L_law_13 : decode b_L_law 13 = .ok (.new 65, 3) := by decide +kernel
theorem d_L_law_16 : decode b_L_law 16 = .ok (.dup, 1) := by decide +kernel
theorem d_L_law_17 : decode b_L_law 17 = .ok (.aload_n 0, 1) := by decide +kernel
theorem d_L_law_18 : decode b_L_law 18 = .ok (.iconst 0, 1) := by decide +kernel
theorem d_L_law_19 : decode b_L_law 19 = .ok (.invokestatic 57, 3) := by decide +kernel
theorem d_L_law_22 : decode b_L_law 22 = .ok (.invokespecial 67, 3) := by decide +kernel
theorem d_L_law_25 : decode b_L_law 25 = .ok (.astore_n 2, 1) := by decide +kernel
theorem d_L_law_26 : decode b_L_law 26 = .ok (.iconst 1, 1) := by decide +kernel
theorem d_L_law_27 : decode b_L_law 27 = .ok (.newarray .long, 2) := by decide +kernel
theorem d_L_law_29 : decode b_L_law 29 = .ok (.astore_n 3, 1) := by decide +kernel
theorem d_L_law_30 : decode b_L_law 30 = .ok (.iconst 1, 1) := by decide +kernel
theorem d_L_law_31 : decode b_L_law 31 = .ok (.istore 4, 2) := by decide +kernel
theorem d_L_law_33 : decode b_L_law 33 = .ok (.iload 4, 2) := by decide +kernel
theorem d_L_law_35 : decode b_L_law 35 = .ok (.aload_n 0, 1) := by decide +kernel
theorem d_L_law_36 : decode b_L_law 36 = .ok (.arraylength, 1) := by decide +kernel
theorem d_L_law_37 : decode b_L_law 37 = .ok (.iconst 5, 1) := by decide +kernel
theorem d_L_law_38 : decode b_L_law 38 = .ok (.isub, 1) := by decide +kernel
theorem d_L_law_39 : decode b_L_law 39 = .ok (.if_icmp .gt 642, 3) := by decide +kernel
theorem d_L_law_42 : decode b_L_law 42 = .ok (.aload_n 0, 1) := by decide +kernel
theorem d_L_law_43 : decode b_L_law 43 = .ok (.iload 4, 2) := by decide +kernel
theorem d_L_law_45 : decode b_L_law 45 = .ok (.iaload, 1) := by decide +kernel
theorem d_L_law_46 : decode b_L_law 46 = .ok (.bipush 15, 2) := by decide +kernel
theorem d_L_law_48 : decode b_L_law 48 = .ok (.iand, 1) := by decide +kernel
theorem d_L_law_49 : decode b_L_law 49 = .ok (.tableswitch 626 0 13 #[71, 163, 188, 213, 253, 269, 309, 325, 353, 381, 397, 437, 498, 562], 71) := by decide +kernel
theorem d_L_law_120 : decode b_L_law 120 = .ok (.aload_n 1, 1) := by decide +kernel
theorem d_L_law_121 : decode b_L_law 121 = .ok (.aload_n 0, 1) := by decide +kernel
theorem d_L_law_122 : decode b_L_law 122 = .ok (.iload 4, 2) := by decide +kernel
theorem d_L_law_124 : decode b_L_law 124 = .ok (.iconst 1, 1) := by decide +kernel
theorem d_L_law_125 : decode b_L_law 125 = .ok (.iadd, 1) := by decide +kernel
theorem d_L_law_126 : decode b_L_law 126 = .ok (.iaload, 1) := by decide +kernel
theorem d_L_law_127 : decode b_L_law 127 = .ok (.aload_n 0, 1) := by decide +kernel
theorem d_L_law_128 : decode b_L_law 128 = .ok (.iload 4, 2) := by decide +kernel
theorem d_L_law_130 : decode b_L_law 130 = .ok (.iconst 2, 1) := by decide +kernel
theorem d_L_law_131 : decode b_L_law 131 = .ok (.iadd, 1) := by decide +kernel
theorem d_L_law_132 : decode b_L_law 132 = .ok (.iaload, 1) := by decide +kernel
theorem d_L_law_133 : decode b_L_law 133 = .ok (.aload_n 0, 1) := by decide +kernel
theorem d_L_law_134 : decode b_L_law 134 = .ok (.iload 4, 2) := by decide +kernel
theorem d_L_law_136 : decode b_L_law 136 = .ok (.iconst 3, 1) := by decide +kernel
theorem d_L_law_137 : decode b_L_law 137 = .ok (.iadd, 1) := by decide +kernel
theorem d_L_law_138 : decode b_L_law 138 = .ok (.iaload, 1) := by decide +kernel
theorem d_L_law_139 : decode b_L_law 139 = .ok (.aload_n 0, 1) := by decide +kernel
theorem d_L_law_140 : decode b_L_law 140 = .ok (.iload 4, 2) := by decide +kernel
theorem d_L_law_142 : decode b_L_law 142 = .ok (.iconst 4, 1) := by decide +kernel
theorem d_L_law_143 : decode b_L_law 143 = .ok (.iadd, 1) := by decide +kernel
theorem d_L_law_144 : decode b_L_law 144 = .ok (.iaload, 1) := by decide +kernel
theorem d_L_law_145 : decode b_L_law 145 = .ok (.aload_n 3, 1) := by decide +kernel
theorem d_L_law_146 : decode b_L_law 146 = .ok (.invokestatic 68, 3) := by decide +kernel
theorem d_L_law_149 : decode b_L_law 149 = .ok (.istore 5, 2) := by decide +kernel
theorem d_L_law_151 : decode b_L_law 151 = .ok (.aload_n 2, 1) := by decide +kernel
theorem d_L_law_152 : decode b_L_law 152 = .ok (.aload_n 0, 1) := by decide +kernel
theorem d_L_law_153 : decode b_L_law 153 = .ok (.iload 4, 2) := by decide +kernel
theorem d_L_law_155 : decode b_L_law 155 = .ok (.iconst 1, 1) := by decide +kernel
theorem d_L_law_156 : decode b_L_law 156 = .ok (.iadd, 1) := by decide +kernel
theorem d_L_law_157 : decode b_L_law 157 = .ok (.iaload, 1) := by decide +kernel
theorem d_L_law_158 : decode b_L_law 158 = .ok (.aload_n 0, 1) := by decide +kernel
theorem d_L_law_159 : decode b_L_law 159 = .ok (.iload 4, 2) := by decide +kernel
theorem d_L_law_161 : decode b_L_law 161 = .ok (.iconst 2, 1) := by decide +kernel
theorem d_L_law_162 : decode b_L_law 162 = .ok (.iadd, 1) := by decide +kernel
theorem d_L_law_163 : decode b_L_law 163 = .ok (.iaload, 1) := by decide +kernel
theorem d_L_law_164 : decode b_L_law 164 = .ok (.aload_n 0, 1) := by decide +kernel
theorem d_L_law_165 : decode b_L_law 165 = .ok (.iload 4, 2) := by decide +kernel
theorem d_L_law_167 : decode b_L_law 167 = .ok (.iconst 3, 1) := by decide +kernel
theorem d_L_law_168 : decode b_L_law 168 = .ok (.iadd, 1) := by decide +kernel
theorem d_L_law_169 : decode b_L_law 169 = .ok (.iaload, 1) := by decide +kernel
theorem d_L_law_170 : decode b_L_law 170 = .ok (.aload_n 0, 1) := by decide +kernel
theorem d_L_law_171 : decode b_L_law 171 = .ok (.iload 4, 2) := by decide +kernel
theorem d_L_law_173 : decode b_L_law 173 = .ok (.iconst 4, 1) := by decide +kernel
theorem d_L_law_174 : decode b_L_law 174 = .ok (.iadd, 1) := by decide +kernel
theorem d_L_law_175 : decode b_L_law 175 = .ok (.iaload, 1) := by decide +kernel
theorem d_L_law_176 : decode b_L_law 176 = .ok (.invokevirtual 71, 3) := by decide +kernel
theorem d_L_law_179 : decode b_L_law 179 = .ok (.istore 6, 2) := by decide +kernel
theorem d_L_law_181 : decode b_L_law 181 = .ok (.aload_n 2, 1) := by decide +kernel
theorem d_L_law_182 : decode b_L_law 182 = .ok (.invokevirtual 72, 3) := by decide +kernel
theorem d_L_law_185 : decode b_L_law 185 = .ok (.iload 5, 2) := by decide +kernel
theorem d_L_law_187 : decode b_L_law 187 = .ok (.if_icmp .eq 5, 3) := by decide +kernel
theorem d_L_law_190 : decode b_L_law 190 = .ok (.iconst 0, 1) := by decide +kernel
theorem d_L_law_191 : decode b_L_law 191 = .ok (.ireturn, 1) := by decide +kernel
theorem d_L_law_192 : decode b_L_law 192 = .ok (.iload 5, 2) := by decide +kernel
theorem d_L_law_194 : decode b_L_law 194 = .ok (.ifCond .ne 15, 3) := by decide +kernel
theorem d_L_law_197 : decode b_L_law 197 = .ok (.aload_n 3, 1) := by decide +kernel
theorem d_L_law_198 : decode b_L_law 198 = .ok (.iconst 0, 1) := by decide +kernel
theorem d_L_law_199 : decode b_L_law 199 = .ok (.laload, 1) := by decide +kernel
theorem d_L_law_200 : decode b_L_law 200 = .ok (.iload 6, 2) := by decide +kernel
theorem d_L_law_202 : decode b_L_law 202 = .ok (.i2l, 1) := by decide +kernel
theorem d_L_law_203 : decode b_L_law 203 = .ok (.lcmp, 1) := by decide +kernel
theorem d_L_law_204 : decode b_L_law 204 = .ok (.ifCond .eq 5, 3) := by decide +kernel
theorem d_L_law_207 : decode b_L_law 207 = .ok (.iconst 0, 1) := by decide +kernel
theorem d_L_law_208 : decode b_L_law 208 = .ok (.ireturn, 1) := by decide +kernel
theorem d_L_law_209 : decode b_L_law 209 = .ok (.goto 466, 3) := by decide +kernel
theorem d_L_law_212 : decode b_L_law 212 = .ok (.aload_n 1, 1) := by decide +kernel
theorem d_L_law_213 : decode b_L_law 213 = .ok (.aload_n 0, 1) := by decide +kernel
theorem d_L_law_214 : decode b_L_law 214 = .ok (.iload 4, 2) := by decide +kernel
theorem d_L_law_216 : decode b_L_law 216 = .ok (.iconst 1, 1) := by decide +kernel
theorem d_L_law_217 : decode b_L_law 217 = .ok (.iadd, 1) := by decide +kernel
theorem d_L_law_218 : decode b_L_law 218 = .ok (.iaload, 1) := by decide +kernel
theorem d_L_law_219 : decode b_L_law 219 = .ok (.invokestatic 75, 3) := by decide +kernel
theorem d_L_law_222 : decode b_L_law 222 = .ok (.istore 5, 2) := by decide +kernel
theorem d_L_law_224 : decode b_L_law 224 = .ok (.aload_n 2, 1) := by decide +kernel
theorem d_L_law_225 : decode b_L_law 225 = .ok (.aload_n 0, 1) := by decide +kernel
theorem d_L_law_226 : decode b_L_law 226 = .ok (.iload 4, 2) := by decide +kernel
theorem d_L_law_228 : decode b_L_law 228 = .ok (.iconst 1, 1) := by decide +kernel
theorem d_L_law_229 : decode b_L_law 229 = .ok (.iadd, 1) := by decide +kernel
theorem d_L_law_230 : decode b_L_law 230 = .ok (.iaload, 1) := by decide +kernel
theorem d_L_law_231 : decode b_L_law 231 = .ok (.invokevirtual 78, 3) := by decide +kernel
theorem d_L_law_234 : decode b_L_law 234 = .ok (.goto 441, 3) := by decide +kernel
theorem d_L_law_237 : decode b_L_law 237 = .ok (.aload_n 1, 1) := by decide +kernel
theorem d_L_law_238 : decode b_L_law 238 = .ok (.aload_n 0, 1) := by decide +kernel
theorem d_L_law_239 : decode b_L_law 239 = .ok (.iload 4, 2) := by decide +kernel
theorem d_L_law_241 : decode b_L_law 241 = .ok (.iconst 1, 1) := by decide +kernel
theorem d_L_law_242 : decode b_L_law 242 = .ok (.iadd, 1) := by decide +kernel
theorem d_L_law_243 : decode b_L_law 243 = .ok (.iaload, 1) := by decide +kernel
theorem d_L_law_244 : decode b_L_law 244 = .ok (.invokevirtual 79, 3) := by decide +kernel
theorem d_L_law_247 : decode b_L_law 247 = .ok (.pop, 1) := by decide +kernel
theorem d_L_law_248 : decode b_L_law 248 = .ok (.aload_n 2, 1) := by decide +kernel
theorem d_L_law_249 : decode b_L_law 249 = .ok (.aload_n 0, 1) := by decide +kernel
theorem d_L_law_250 : decode b_L_law 250 = .ok (.iload 4, 2) := by decide +kernel
theorem d_L_law_252 : decode b_L_law 252 = .ok (.iconst 1, 1) := by decide +kernel
theorem d_L_law_253 : decode b_L_law 253 = .ok (.iadd, 1) := by decide +kernel
theorem d_L_law_254 : decode b_L_law 254 = .ok (.iaload, 1) := by decide +kernel
theorem d_L_law_255 : decode b_L_law 255 = .ok (.invokevirtual 82, 3) := by decide +kernel
theorem d_L_law_258 : decode b_L_law 258 = .ok (.pop, 1) := by decide +kernel
theorem d_L_law_259 : decode b_L_law 259 = .ok (.goto 416, 3) := by decide +kernel
theorem d_L_law_262 : decode b_L_law 262 = .ok (.aload_n 1, 1) := by decide +kernel
theorem d_L_law_263 : decode b_L_law 263 = .ok (.aload_n 0, 1) := by decide +kernel
theorem d_L_law_264 : decode b_L_law 264 = .ok (.iload 4, 2) := by decide +kernel
theorem d_L_law_266 : decode b_L_law 266 = .ok (.iconst 1, 1) := by decide +kernel
theorem d_L_law_267 : decode b_L_law 267 = .ok (.iadd, 1) := by decide +kernel
theorem d_L_law_268 : decode b_L_law 268 = .ok (.iaload, 1) := by decide +kernel
theorem d_L_law_269 : decode b_L_law 269 = .ok (.aload_n 0, 1) := by decide +kernel
theorem d_L_law_270 : decode b_L_law 270 = .ok (.iload 4, 2) := by decide +kernel
theorem d_L_law_272 : decode b_L_law 272 = .ok (.iconst 2, 1) := by decide +kernel
theorem d_L_law_273 : decode b_L_law 273 = .ok (.iadd, 1) := by decide +kernel
theorem d_L_law_274 : decode b_L_law 274 = .ok (.iaload, 1) := by decide +kernel
theorem d_L_law_275 : decode b_L_law 275 = .ok (.aload_n 3, 1) := by decide +kernel
theorem d_L_law_276 : decode b_L_law 276 = .ok (.invokestatic 83, 3) := by decide +kernel
theorem d_L_law_279 : decode b_L_law 279 = .ok (.istore 5, 2) := by decide +kernel
theorem d_L_law_281 : decode b_L_law 281 = .ok (.aload_n 2, 1) := by decide +kernel
theorem d_L_law_282 : decode b_L_law 282 = .ok (.aload_n 0, 1) := by decide +kernel
theorem d_L_law_283 : decode b_L_law 283 = .ok (.iload 4, 2) := by decide +kernel
theorem d_L_law_285 : decode b_L_law 285 = .ok (.iconst 1, 1) := by decide +kernel
theorem d_L_law_286 : decode b_L_law 286 = .ok (.iadd, 1) := by decide +kernel
theorem d_L_law_287 : decode b_L_law 287 = .ok (.iaload, 1) := by decide +kernel
theorem d_L_law_288 : decode b_L_law 288 = .ok (.aload_n 0, 1) := by decide +kernel
theorem d_L_law_289 : decode b_L_law 289 = .ok (.iload 4, 2) := by decide +kernel
theorem d_L_law_291 : decode b_L_law 291 = .ok (.iconst 2, 1) := by decide +kernel
theorem d_L_law_292 : decode b_L_law 292 = .ok (.iadd, 1) := by decide +kernel
theorem d_L_law_293 : decode b_L_law 293 = .ok (.iaload, 1) := by decide +kernel
theorem d_L_law_294 : decode b_L_law 294 = .ok (.invokevirtual 86, 3) := by decide +kernel
theorem d_L_law_297 : decode b_L_law 297 = .ok (.istore 6, 2) := by decide +kernel
theorem d_L_law_299 : decode b_L_law 299 = .ok (.goto 376, 3) := by decide +kernel
theorem d_L_law_302 : decode b_L_law 302 = .ok (.aload_n 1, 1) := by decide +kernel
theorem d_L_law_303 : decode b_L_law 303 = .ok (.aload_n 3, 1) := by decide +kernel
theorem d_L_law_304 : decode b_L_law 304 = .ok (.invokestatic 87, 3) := by decide +kernel
theorem d_L_law_307 : decode b_L_law 307 = .ok (.istore 5, 2) := by decide +kernel
theorem d_L_law_309 : decode b_L_law 309 = .ok (.aload_n 2, 1) := by decide +kernel
theorem d_L_law_310 : decode b_L_law 310 = .ok (.invokevirtual 90, 3) := by decide +kernel
theorem d_L_law_313 : decode b_L_law 313 = .ok (.istore 6, 2) := by decide +kernel
theorem d_L_law_315 : decode b_L_law 315 = .ok (.goto 360, 3) := by decide +kernel
theorem d_L_law_318 : decode b_L_law 318 = .ok (.aload_n 1, 1) := by decide +kernel
theorem d_L_law_319 : decode b_L_law 319 = .ok (.aload_n 0, 1) := by decide +kernel
theorem d_L_law_320 : decode b_L_law 320 = .ok (.iload 4, 2) := by decide +kernel
theorem d_L_law_322 : decode b_L_law 322 = .ok (.iconst 1, 1) := by decide +kernel
theorem d_L_law_323 : decode b_L_law 323 = .ok (.iadd, 1) := by decide +kernel
theorem d_L_law_324 : decode b_L_law 324 = .ok (.iaload, 1) := by decide +kernel
theorem d_L_law_325 : decode b_L_law 325 = .ok (.aload_n 0, 1) := by decide +kernel
theorem d_L_law_326 : decode b_L_law 326 = .ok (.iload 4, 2) := by decide +kernel
theorem d_L_law_328 : decode b_L_law 328 = .ok (.iconst 2, 1) := by decide +kernel
theorem d_L_law_329 : decode b_L_law 329 = .ok (.iadd, 1) := by decide +kernel
theorem d_L_law_330 : decode b_L_law 330 = .ok (.iaload, 1) := by decide +kernel
theorem d_L_law_331 : decode b_L_law 331 = .ok (.aload_n 3, 1) := by decide +kernel
theorem d_L_law_332 : decode b_L_law 332 = .ok (.invokestatic 91, 3) := by decide +kernel
theorem d_L_law_335 : decode b_L_law 335 = .ok (.istore 5, 2) := by decide +kernel
theorem d_L_law_337 : decode b_L_law 337 = .ok (.aload_n 2, 1) := by decide +kernel
theorem d_L_law_338 : decode b_L_law 338 = .ok (.aload_n 0, 1) := by decide +kernel
theorem d_L_law_339 : decode b_L_law 339 = .ok (.iload 4, 2) := by decide +kernel
theorem d_L_law_341 : decode b_L_law 341 = .ok (.iconst 1, 1) := by decide +kernel
theorem d_L_law_342 : decode b_L_law 342 = .ok (.iadd, 1) := by decide +kernel
theorem d_L_law_343 : decode b_L_law 343 = .ok (.iaload, 1) := by decide +kernel
theorem d_L_law_344 : decode b_L_law 344 = .ok (.aload_n 0, 1) := by decide +kernel
theorem d_L_law_345 : decode b_L_law 345 = .ok (.iload 4, 2) := by decide +kernel
theorem d_L_law_347 : decode b_L_law 347 = .ok (.iconst 2, 1) := by decide +kernel
theorem d_L_law_348 : decode b_L_law 348 = .ok (.iadd, 1) := by decide +kernel
theorem d_L_law_349 : decode b_L_law 349 = .ok (.iaload, 1) := by decide +kernel
theorem d_L_law_350 : decode b_L_law 350 = .ok (.invokevirtual 93, 3) := by decide +kernel
theorem d_L_law_353 : decode b_L_law 353 = .ok (.istore 6, 2) := by decide +kernel
theorem d_L_law_355 : decode b_L_law 355 = .ok (.goto 320, 3) := by decide +kernel
theorem d_L_law_358 : decode b_L_law 358 = .ok (.aload_n 1, 1) := by decide +kernel
theorem d_L_law_359 : decode b_L_law 359 = .ok (.aload_n 3, 1) := by decide +kernel
theorem d_L_law_360 : decode b_L_law 360 = .ok (.invokestatic 94, 3) := by decide +kernel
theorem d_L_law_363 : decode b_L_law 363 = .ok (.istore 5, 2) := by decide +kernel
theorem d_L_law_365 : decode b_L_law 365 = .ok (.aload_n 2, 1) := by decide +kernel
theorem d_L_law_366 : decode b_L_law 366 = .ok (.invokevirtual 96, 3) := by decide +kernel
theorem d_L_law_369 : decode b_L_law 369 = .ok (.istore 6, 2) := by decide +kernel
theorem d_L_law_371 : decode b_L_law 371 = .ok (.goto 304, 3) := by decide +kernel
theorem d_L_law_374 : decode b_L_law 374 = .ok (.aload_n 1, 1) := by decide +kernel
theorem d_L_law_375 : decode b_L_law 375 = .ok (.aload_n 0, 1) := by decide +kernel
theorem d_L_law_376 : decode b_L_law 376 = .ok (.iload 4, 2) := by decide +kernel
theorem d_L_law_378 : decode b_L_law 378 = .ok (.iconst 1, 1) := by decide +kernel
theorem d_L_law_379 : decode b_L_law 379 = .ok (.iadd, 1) := by decide +kernel
theorem d_L_law_380 : decode b_L_law 380 = .ok (.iaload, 1) := by decide +kernel
theorem d_L_law_381 : decode b_L_law 381 = .ok (.aload_n 3, 1) := by decide +kernel
theorem d_L_law_382 : decode b_L_law 382 = .ok (.invokestatic 97, 3) := by decide +kernel
theorem d_L_law_385 : decode b_L_law 385 = .ok (.istore 5, 2) := by decide +kernel
theorem d_L_law_387 : decode b_L_law 387 = .ok (.aload_n 2, 1) := by decide +kernel
theorem d_L_law_388 : decode b_L_law 388 = .ok (.aload_n 0, 1) := by decide +kernel
theorem d_L_law_389 : decode b_L_law 389 = .ok (.iload 4, 2) := by decide +kernel
theorem d_L_law_391 : decode b_L_law 391 = .ok (.iconst 1, 1) := by decide +kernel
theorem d_L_law_392 : decode b_L_law 392 = .ok (.iadd, 1) := by decide +kernel
theorem d_L_law_393 : decode b_L_law 393 = .ok (.iaload, 1) := by decide +kernel
theorem d_L_law_394 : decode b_L_law 394 = .ok (.invokevirtual 100, 3) := by decide +kernel
theorem d_L_law_397 : decode b_L_law 397 = .ok (.istore 6, 2) := by decide +kernel
theorem d_L_law_399 : decode b_L_law 399 = .ok (.goto 276, 3) := by decide +kernel
theorem d_L_law_402 : decode b_L_law 402 = .ok (.aload_n 1, 1) := by decide +kernel
theorem d_L_law_403 : decode b_L_law 403 = .ok (.aload_n 0, 1) := by decide +kernel
theorem d_L_law_404 : decode b_L_law 404 = .ok (.iload 4, 2) := by decide +kernel
theorem d_L_law_406 : decode b_L_law 406 = .ok (.iconst 1, 1) := by decide +kernel
theorem d_L_law_407 : decode b_L_law 407 = .ok (.iadd, 1) := by decide +kernel
theorem d_L_law_408 : decode b_L_law 408 = .ok (.iaload, 1) := by decide +kernel
theorem d_L_law_409 : decode b_L_law 409 = .ok (.aload_n 3, 1) := by decide +kernel
theorem d_L_law_410 : decode b_L_law 410 = .ok (.invokestatic 101, 3) := by decide +kernel
theorem d_L_law_413 : decode b_L_law 413 = .ok (.istore 5, 2) := by decide +kernel
theorem d_L_law_415 : decode b_L_law 415 = .ok (.aload_n 2, 1) := by decide +kernel
theorem d_L_law_416 : decode b_L_law 416 = .ok (.aload_n 0, 1) := by decide +kernel
theorem d_L_law_417 : decode b_L_law 417 = .ok (.iload 4, 2) := by decide +kernel
theorem d_L_law_419 : decode b_L_law 419 = .ok (.iconst 1, 1) := by decide +kernel
theorem d_L_law_420 : decode b_L_law 420 = .ok (.iadd, 1) := by decide +kernel
theorem d_L_law_421 : decode b_L_law 421 = .ok (.iaload, 1) := by decide +kernel
theorem d_L_law_422 : decode b_L_law 422 = .ok (.invokevirtual 103, 3) := by decide +kernel
theorem d_L_law_425 : decode b_L_law 425 = .ok (.istore 6, 2) := by decide +kernel
theorem d_L_law_427 : decode b_L_law 427 = .ok (.goto 248, 3) := by decide +kernel
theorem d_L_law_430 : decode b_L_law 430 = .ok (.aload_n 1, 1) := by decide +kernel
theorem d_L_law_431 : decode b_L_law 431 = .ok (.aload_n 3, 1) := by decide +kernel
theorem d_L_law_432 : decode b_L_law 432 = .ok (.invokestatic 104, 3) := by decide +kernel
theorem d_L_law_435 : decode b_L_law 435 = .ok (.istore 5, 2) := by decide +kernel
theorem d_L_law_437 : decode b_L_law 437 = .ok (.aload_n 2, 1) := by decide +kernel
theorem d_L_law_438 : decode b_L_law 438 = .ok (.invokevirtual 106, 3) := by decide +kernel
theorem d_L_law_441 : decode b_L_law 441 = .ok (.istore 6, 2) := by decide +kernel
theorem d_L_law_443 : decode b_L_law 443 = .ok (.goto 232, 3) := by decide +kernel
theorem d_L_law_446 : decode b_L_law 446 = .ok (.aload_n 1, 1) := by decide +kernel
theorem d_L_law_447 : decode b_L_law 447 = .ok (.aload_n 0, 1) := by decide +kernel
theorem d_L_law_448 : decode b_L_law 448 = .ok (.iload 4, 2) := by decide +kernel
theorem d_L_law_450 : decode b_L_law 450 = .ok (.iconst 1, 1) := by decide +kernel
theorem d_L_law_451 : decode b_L_law 451 = .ok (.iadd, 1) := by decide +kernel
theorem d_L_law_452 : decode b_L_law 452 = .ok (.iaload, 1) := by decide +kernel
theorem d_L_law_453 : decode b_L_law 453 = .ok (.aload_n 0, 1) := by decide +kernel
theorem d_L_law_454 : decode b_L_law 454 = .ok (.iload 4, 2) := by decide +kernel
theorem d_L_law_456 : decode b_L_law 456 = .ok (.iconst 2, 1) := by decide +kernel
theorem d_L_law_457 : decode b_L_law 457 = .ok (.iadd, 1) := by decide +kernel
theorem d_L_law_458 : decode b_L_law 458 = .ok (.iaload, 1) := by decide +kernel
theorem d_L_law_459 : decode b_L_law 459 = .ok (.aload_n 3, 1) := by decide +kernel
theorem d_L_law_460 : decode b_L_law 460 = .ok (.invokestatic 107, 3) := by decide +kernel
theorem d_L_law_463 : decode b_L_law 463 = .ok (.istore 5, 2) := by decide +kernel
theorem d_L_law_465 : decode b_L_law 465 = .ok (.aload_n 2, 1) := by decide +kernel
theorem d_L_law_466 : decode b_L_law 466 = .ok (.aload_n 0, 1) := by decide +kernel
theorem d_L_law_467 : decode b_L_law 467 = .ok (.iload 4, 2) := by decide +kernel
theorem d_L_law_469 : decode b_L_law 469 = .ok (.iconst 1, 1) := by decide +kernel
theorem d_L_law_470 : decode b_L_law 470 = .ok (.iadd, 1) := by decide +kernel
theorem d_L_law_471 : decode b_L_law 471 = .ok (.iaload, 1) := by decide +kernel
theorem d_L_law_472 : decode b_L_law 472 = .ok (.aload_n 0, 1) := by decide +kernel
theorem d_L_law_473 : decode b_L_law 473 = .ok (.iload 4, 2) := by decide +kernel
theorem d_L_law_475 : decode b_L_law 475 = .ok (.iconst 2, 1) := by decide +kernel
theorem d_L_law_476 : decode b_L_law 476 = .ok (.iadd, 1) := by decide +kernel
theorem d_L_law_477 : decode b_L_law 477 = .ok (.iaload, 1) := by decide +kernel
theorem d_L_law_478 : decode b_L_law 478 = .ok (.invokevirtual 109, 3) := by decide +kernel
theorem d_L_law_481 : decode b_L_law 481 = .ok (.istore 6, 2) := by decide +kernel
theorem d_L_law_483 : decode b_L_law 483 = .ok (.goto 192, 3) := by decide +kernel
theorem d_L_law_486 : decode b_L_law 486 = .ok (.aload_n 1, 1) := by decide +kernel
theorem d_L_law_487 : decode b_L_law 487 = .ok (.aload_n 0, 1) := by decide +kernel
theorem d_L_law_488 : decode b_L_law 488 = .ok (.iload 4, 2) := by decide +kernel
theorem d_L_law_490 : decode b_L_law 490 = .ok (.iconst 1, 1) := by decide +kernel
theorem d_L_law_491 : decode b_L_law 491 = .ok (.iadd, 1) := by decide +kernel
theorem d_L_law_492 : decode b_L_law 492 = .ok (.iaload, 1) := by decide +kernel
theorem d_L_law_493 : decode b_L_law 493 = .ok (.aload_n 0, 1) := by decide +kernel
theorem d_L_law_494 : decode b_L_law 494 = .ok (.iload 4, 2) := by decide +kernel
theorem d_L_law_496 : decode b_L_law 496 = .ok (.iconst 2, 1) := by decide +kernel
theorem d_L_law_497 : decode b_L_law 497 = .ok (.iadd, 1) := by decide +kernel
theorem d_L_law_498 : decode b_L_law 498 = .ok (.iaload, 1) := by decide +kernel
theorem d_L_law_499 : decode b_L_law 499 = .ok (.aload_n 0, 1) := by decide +kernel
theorem d_L_law_500 : decode b_L_law 500 = .ok (.iload 4, 2) := by decide +kernel
theorem d_L_law_502 : decode b_L_law 502 = .ok (.iconst 3, 1) := by decide +kernel
theorem d_L_law_503 : decode b_L_law 503 = .ok (.iadd, 1) := by decide +kernel
theorem d_L_law_504 : decode b_L_law 504 = .ok (.iaload, 1) := by decide +kernel
theorem d_L_law_505 : decode b_L_law 505 = .ok (.aload_n 0, 1) := by decide +kernel
theorem d_L_law_506 : decode b_L_law 506 = .ok (.iload 4, 2) := by decide +kernel
theorem d_L_law_508 : decode b_L_law 508 = .ok (.iconst 4, 1) := by decide +kernel
theorem d_L_law_509 : decode b_L_law 509 = .ok (.iadd, 1) := by decide +kernel
theorem d_L_law_510 : decode b_L_law 510 = .ok (.iaload, 1) := by decide +kernel
theorem d_L_law_511 : decode b_L_law 511 = .ok (.invokevirtual 110, 3) := by decide +kernel
theorem d_L_law_514 : decode b_L_law 514 = .ok (.pop, 1) := by decide +kernel
theorem d_L_law_515 : decode b_L_law 515 = .ok (.aload_n 2, 1) := by decide +kernel
theorem d_L_law_516 : decode b_L_law 516 = .ok (.aload_n 0, 1) := by decide +kernel
theorem d_L_law_517 : decode b_L_law 517 = .ok (.iload 4, 2) := by decide +kernel
theorem d_L_law_519 : decode b_L_law 519 = .ok (.iconst 1, 1) := by decide +kernel
theorem d_L_law_520 : decode b_L_law 520 = .ok (.iadd, 1) := by decide +kernel
theorem d_L_law_521 : decode b_L_law 521 = .ok (.iaload, 1) := by decide +kernel
theorem d_L_law_522 : decode b_L_law 522 = .ok (.aload_n 0, 1) := by decide +kernel
theorem d_L_law_523 : decode b_L_law 523 = .ok (.iload 4, 2) := by decide +kernel
theorem d_L_law_525 : decode b_L_law 525 = .ok (.iconst 2, 1) := by decide +kernel
theorem d_L_law_526 : decode b_L_law 526 = .ok (.iadd, 1) := by decide +kernel
theorem d_L_law_527 : decode b_L_law 527 = .ok (.iaload, 1) := by decide +kernel
theorem d_L_law_528 : decode b_L_law 528 = .ok (.aload_n 0, 1) := by decide +kernel
theorem d_L_law_529 : decode b_L_law 529 = .ok (.iload 4, 2) := by decide +kernel
theorem d_L_law_531 : decode b_L_law 531 = .ok (.iconst 3, 1) := by decide +kernel
theorem d_L_law_532 : decode b_L_law 532 = .ok (.iadd, 1) := by decide +kernel
theorem d_L_law_533 : decode b_L_law 533 = .ok (.iaload, 1) := by decide +kernel
theorem d_L_law_534 : decode b_L_law 534 = .ok (.aload_n 0, 1) := by decide +kernel
theorem d_L_law_535 : decode b_L_law 535 = .ok (.iload 4, 2) := by decide +kernel
theorem d_L_law_537 : decode b_L_law 537 = .ok (.iconst 4, 1) := by decide +kernel
theorem d_L_law_538 : decode b_L_law 538 = .ok (.iadd, 1) := by decide +kernel
theorem d_L_law_539 : decode b_L_law 539 = .ok (.iaload, 1) := by decide +kernel
theorem d_L_law_540 : decode b_L_law 540 = .ok (.invokevirtual 114, 3) := by decide +kernel
theorem d_L_law_543 : decode b_L_law 543 = .ok (.pop, 1) := by decide +kernel
theorem d_L_law_544 : decode b_L_law 544 = .ok (.goto 131, 3) := by decide +kernel
theorem d_L_law_547 : decode b_L_law 547 = .ok (.aload_n 1, 1) := by decide +kernel
theorem d_L_law_548 : decode b_L_law 548 = .ok (.aload_n 0, 1) := by decide +kernel
theorem d_L_law_549 : decode b_L_law 549 = .ok (.iload 4, 2) := by decide +kernel
theorem d_L_law_551 : decode b_L_law 551 = .ok (.iconst 1, 1) := by decide +kernel
theorem d_L_law_552 : decode b_L_law 552 = .ok (.iadd, 1) := by decide +kernel
theorem d_L_law_553 : decode b_L_law 553 = .ok (.iaload, 1) := by decide +kernel
theorem d_L_law_554 : decode b_L_law 554 = .ok (.aload_n 0, 1) := by decide +kernel
theorem d_L_law_555 : decode b_L_law 555 = .ok (.iload 4, 2) := by decide +kernel
theorem d_L_law_557 : decode b_L_law 557 = .ok (.iconst 2, 1) := by decide +kernel
theorem d_L_law_558 : decode b_L_law 558 = .ok (.iadd, 1) := by decide +kernel
theorem d_L_law_559 : decode b_L_law 559 = .ok (.iaload, 1) := by decide +kernel
theorem d_L_law_560 : decode b_L_law 560 = .ok (.aload_n 0, 1) := by decide +kernel
theorem d_L_law_561 : decode b_L_law 561 = .ok (.iload 4, 2) := by decide +kernel
theorem d_L_law_563 : decode b_L_law 563 = .ok (.iconst 3, 1) := by decide +kernel
theorem d_L_law_564 : decode b_L_law 564 = .ok (.iadd, 1) := by decide +kernel
theorem d_L_law_565 : decode b_L_law 565 = .ok (.iaload, 1) := by decide +kernel
theorem d_L_law_566 : decode b_L_law 566 = .ok (.aload_n 0, 1) := by decide +kernel
theorem d_L_law_567 : decode b_L_law 567 = .ok (.iload 4, 2) := by decide +kernel
theorem d_L_law_569 : decode b_L_law 569 = .ok (.iconst 4, 1) := by decide +kernel
theorem d_L_law_570 : decode b_L_law 570 = .ok (.iadd, 1) := by decide +kernel
theorem d_L_law_571 : decode b_L_law 571 = .ok (.iaload, 1) := by decide +kernel
theorem d_L_law_572 : decode b_L_law 572 = .ok (.aload_n 3, 1) := by decide +kernel
theorem d_L_law_573 : decode b_L_law 573 = .ok (.invokestatic 115, 3) := by decide +kernel
theorem d_L_law_576 : decode b_L_law 576 = .ok (.istore 5, 2) := by decide +kernel
theorem d_L_law_578 : decode b_L_law 578 = .ok (.aload_n 2, 1) := by decide +kernel
theorem d_L_law_579 : decode b_L_law 579 = .ok (.aload_n 0, 1) := by decide +kernel
theorem d_L_law_580 : decode b_L_law 580 = .ok (.iload 4, 2) := by decide +kernel
theorem d_L_law_582 : decode b_L_law 582 = .ok (.iconst 1, 1) := by decide +kernel
theorem d_L_law_583 : decode b_L_law 583 = .ok (.iadd, 1) := by decide +kernel
theorem d_L_law_584 : decode b_L_law 584 = .ok (.iaload, 1) := by decide +kernel
theorem d_L_law_585 : decode b_L_law 585 = .ok (.aload_n 0, 1) := by decide +kernel
theorem d_L_law_586 : decode b_L_law 586 = .ok (.iload 4, 2) := by decide +kernel
theorem d_L_law_588 : decode b_L_law 588 = .ok (.iconst 2, 1) := by decide +kernel
theorem d_L_law_589 : decode b_L_law 589 = .ok (.iadd, 1) := by decide +kernel
theorem d_L_law_590 : decode b_L_law 590 = .ok (.iaload, 1) := by decide +kernel
theorem d_L_law_591 : decode b_L_law 591 = .ok (.aload_n 0, 1) := by decide +kernel
theorem d_L_law_592 : decode b_L_law 592 = .ok (.iload 4, 2) := by decide +kernel
theorem d_L_law_594 : decode b_L_law 594 = .ok (.iconst 3, 1) := by decide +kernel
theorem d_L_law_595 : decode b_L_law 595 = .ok (.iadd, 1) := by decide +kernel
theorem d_L_law_596 : decode b_L_law 596 = .ok (.iaload, 1) := by decide +kernel
theorem d_L_law_597 : decode b_L_law 597 = .ok (.aload_n 0, 1) := by decide +kernel
theorem d_L_law_598 : decode b_L_law 598 = .ok (.iload 4, 2) := by decide +kernel
theorem d_L_law_600 : decode b_L_law 600 = .ok (.iconst 4, 1) := by decide +kernel
theorem d_L_law_601 : decode b_L_law 601 = .ok (.iadd, 1) := by decide +kernel
theorem d_L_law_602 : decode b_L_law 602 = .ok (.iaload, 1) := by decide +kernel
theorem d_L_law_603 : decode b_L_law 603 = .ok (.invokevirtual 117, 3) := by decide +kernel
theorem d_L_law_606 : decode b_L_law 606 = .ok (.istore 6, 2) := by decide +kernel
theorem d_L_law_608 : decode b_L_law 608 = .ok (.goto 67, 3) := by decide +kernel
theorem d_L_law_611 : decode b_L_law 611 = .ok (.aload_n 1, 1) := by decide +kernel
theorem d_L_law_612 : decode b_L_law 612 = .ok (.aload_n 0, 1) := by decide +kernel
theorem d_L_law_613 : decode b_L_law 613 = .ok (.iload 4, 2) := by decide +kernel
theorem d_L_law_615 : decode b_L_law 615 = .ok (.iconst 1, 1) := by decide +kernel
theorem d_L_law_616 : decode b_L_law 616 = .ok (.iadd, 1) := by decide +kernel
theorem d_L_law_617 : decode b_L_law 617 = .ok (.iaload, 1) := by decide +kernel
theorem d_L_law_618 : decode b_L_law 618 = .ok (.aload_n 0, 1) := by decide +kernel
theorem d_L_law_619 : decode b_L_law 619 = .ok (.iload 4, 2) := by decide +kernel
theorem d_L_law_621 : decode b_L_law 621 = .ok (.iconst 2, 1) := by decide +kernel
theorem d_L_law_622 : decode b_L_law 622 = .ok (.iadd, 1) := by decide +kernel
theorem d_L_law_623 : decode b_L_law 623 = .ok (.iaload, 1) := by decide +kernel
theorem d_L_law_624 : decode b_L_law 624 = .ok (.aload_n 0, 1) := by decide +kernel
theorem d_L_law_625 : decode b_L_law 625 = .ok (.iload 4, 2) := by decide +kernel
theorem d_L_law_627 : decode b_L_law 627 = .ok (.iconst 3, 1) := by decide +kernel
theorem d_L_law_628 : decode b_L_law 628 = .ok (.iadd, 1) := by decide +kernel
theorem d_L_law_629 : decode b_L_law 629 = .ok (.iaload, 1) := by decide +kernel
theorem d_L_law_630 : decode b_L_law 630 = .ok (.aload_n 0, 1) := by decide +kernel
theorem d_L_law_631 : decode b_L_law 631 = .ok (.iload 4, 2) := by decide +kernel
theorem d_L_law_633 : decode b_L_law 633 = .ok (.iconst 4, 1) := by decide +kernel
theorem d_L_law_634 : decode b_L_law 634 = .ok (.iadd, 1) := by decide +kernel
theorem d_L_law_635 : decode b_L_law 635 = .ok (.iaload, 1) := by decide +kernel
theorem d_L_law_636 : decode b_L_law 636 = .ok (.aload_n 3, 1) := by decide +kernel
theorem d_L_law_637 : decode b_L_law 637 = .ok (.invokestatic 118, 3) := by decide +kernel
theorem d_L_law_640 : decode b_L_law 640 = .ok (.istore 5, 2) := by decide +kernel
theorem d_L_law_642 : decode b_L_law 642 = .ok (.aload_n 2, 1) := by decide +kernel
theorem d_L_law_643 : decode b_L_law 643 = .ok (.aload_n 0, 1) := by decide +kernel
theorem d_L_law_644 : decode b_L_law 644 = .ok (.iload 4, 2) := by decide +kernel
theorem d_L_law_646 : decode b_L_law 646 = .ok (.iconst 1, 1) := by decide +kernel
theorem d_L_law_647 : decode b_L_law 647 = .ok (.iadd, 1) := by decide +kernel
theorem d_L_law_648 : decode b_L_law 648 = .ok (.iaload, 1) := by decide +kernel
theorem d_L_law_649 : decode b_L_law 649 = .ok (.aload_n 0, 1) := by decide +kernel
theorem d_L_law_650 : decode b_L_law 650 = .ok (.iload 4, 2) := by decide +kernel
theorem d_L_law_652 : decode b_L_law 652 = .ok (.iconst 2, 1) := by decide +kernel
theorem d_L_law_653 : decode b_L_law 653 = .ok (.iadd, 1) := by decide +kernel
theorem d_L_law_654 : decode b_L_law 654 = .ok (.iaload, 1) := by decide +kernel
theorem d_L_law_655 : decode b_L_law 655 = .ok (.aload_n 0, 1) := by decide +kernel
theorem d_L_law_656 : decode b_L_law 656 = .ok (.iload 4, 2) := by decide +kernel
theorem d_L_law_658 : decode b_L_law 658 = .ok (.iconst 3, 1) := by decide +kernel
theorem d_L_law_659 : decode b_L_law 659 = .ok (.iadd, 1) := by decide +kernel
theorem d_L_law_660 : decode b_L_law 660 = .ok (.iaload, 1) := by decide +kernel
theorem d_L_law_661 : decode b_L_law 661 = .ok (.aload_n 0, 1) := by decide +kernel
theorem d_L_law_662 : decode b_L_law 662 = .ok (.iload 4, 2) := by decide +kernel
theorem d_L_law_664 : decode b_L_law 664 = .ok (.iconst 4, 1) := by decide +kernel
theorem d_L_law_665 : decode b_L_law 665 = .ok (.iadd, 1) := by decide +kernel
theorem d_L_law_666 : decode b_L_law 666 = .ok (.iaload, 1) := by decide +kernel
theorem d_L_law_667 : decode b_L_law 667 = .ok (.invokevirtual 120, 3) := by decide +kernel
theorem d_L_law_670 : decode b_L_law 670 = .ok (.istore 6, 2) := by decide +kernel
theorem d_L_law_672 : decode b_L_law 672 = .ok (.goto 3, 3) := by decide +kernel
theorem d_L_law_675 : decode b_L_law 675 = .ok (.iinc 4 5, 3) := by decide +kernel
theorem d_L_law_678 : decode b_L_law 678 = .ok (.goto (-645), 3) := by decide +kernel
theorem d_L_law_681 : decode b_L_law 681 = .ok (.iconst 1, 1) := by decide +kernel
theorem d_L_law_682 : decode b_L_law 682 = .ok (.ireturn, 1) := by decide +kernel
theorem d_L_least_0 : decode b_L_least 0 = .ok (.aload 5, 2) := by decide +kernel
theorem d_L_least_2 : decode b_L_least 2 = .ok (.iconst 0, 1) := by decide +kernel
theorem d_L_least_3 : decode b_L_least 3 = .ok (.aload_n 0, 1) := by decide +kernel
theorem d_L_least_4 : decode b_L_least 4 = .ok (.iload_n 1, 1) := by decide +kernel
theorem d_L_least_5 : decode b_L_least 5 = .ok (.iload_n 2, 1) := by decide +kernel
theorem d_L_least_6 : decode b_L_least 6 = .ok (.iload_n 3, 1) := by decide +kernel
theorem d_L_least_7 : decode b_L_least 7 = .ok (.iload 4, 2) := by decide +kernel
theorem d_L_least_9 : decode b_L_least 9 = .ok (.invokevirtual 54, 3) := by decide +kernel
theorem d_L_least_12 : decode b_L_least 12 = .ok (.i2l, 1) := by decide +kernel
theorem d_L_least_13 : decode b_L_least 13 = .ok (.lastore, 1) := by decide +kernel
theorem d_L_least_14 : decode b_L_least 14 = .ok (.goto 11, 3) := by decide +kernel
theorem d_L_least_17 : decode b_L_least 17 = .ok (.astore 6, 2) := by decide +kernel
theorem d_L_least_19 : decode b_L_least 19 = .ok (.iconst 1, 1) := by decide +kernel
theorem d_L_least_20 : decode b_L_least 20 = .ok (.ireturn, 1) := by decide +kernel
theorem d_L_least_21 : decode b_L_least 21 = .ok (.astore 6, 2) := by decide +kernel
theorem d_L_least_23 : decode b_L_least 23 = .ok (.iconst 2, 1) := by decide +kernel
theorem d_L_least_24 : decode b_L_least 24 = .ok (.ireturn, 1) := by decide +kernel
theorem d_L_least_25 : decode b_L_least 25 = .ok (.iconst 0, 1) := by decide +kernel
theorem d_L_least_26 : decode b_L_least 26 = .ok (.ireturn, 1) := by decide +kernel
theorem d_L_parts_0 : decode b_L_parts 0 = .ok (.aload 5, 2) := by decide +kernel
theorem d_L_parts_2 : decode b_L_parts 2 = .ok (.iconst 0, 1) := by decide +kernel
theorem d_L_parts_3 : decode b_L_parts 3 = .ok (.aload_n 0, 1) := by decide +kernel
theorem d_L_parts_4 : decode b_L_parts 4 = .ok (.iload_n 1, 1) := by decide +kernel
theorem d_L_parts_5 : decode b_L_parts 5 = .ok (.iload_n 2, 1) := by decide +kernel
theorem d_L_parts_6 : decode b_L_parts 6 = .ok (.iload_n 3, 1) := by decide +kernel
theorem d_L_parts_7 : decode b_L_parts 7 = .ok (.iload 4, 2) := by decide +kernel
theorem d_L_parts_9 : decode b_L_parts 9 = .ok (.invokevirtual 51, 3) := by decide +kernel
theorem d_L_parts_12 : decode b_L_parts 12 = .ok (.i2l, 1) := by decide +kernel
theorem d_L_parts_13 : decode b_L_parts 13 = .ok (.lastore, 1) := by decide +kernel
theorem d_L_parts_14 : decode b_L_parts 14 = .ok (.goto 7, 3) := by decide +kernel
theorem d_L_parts_17 : decode b_L_parts 17 = .ok (.astore 6, 2) := by decide +kernel
theorem d_L_parts_19 : decode b_L_parts 19 = .ok (.iconst 1, 1) := by decide +kernel
theorem d_L_parts_20 : decode b_L_parts 20 = .ok (.ireturn, 1) := by decide +kernel
theorem d_L_parts_21 : decode b_L_parts 21 = .ok (.iconst 0, 1) := by decide +kernel
theorem d_L_parts_22 : decode b_L_parts 22 = .ok (.ireturn, 1) := by decide +kernel
theorem d_L_point_0 : decode b_L_point 0 = .ok (.aload_n 3, 1) := by decide +kernel
theorem d_L_point_1 : decode b_L_point 1 = .ok (.iconst 0, 1) := by decide +kernel
theorem d_L_point_2 : decode b_L_point 2 = .ok (.aload_n 0, 1) := by decide +kernel
theorem d_L_point_3 : decode b_L_point 3 = .ok (.iload_n 1, 1) := by decide +kernel
theorem d_L_point_4 : decode b_L_point 4 = .ok (.iload_n 2, 1) := by decide +kernel
theorem d_L_point_5 : decode b_L_point 5 = .ok (.invokevirtual 48, 3) := by decide +kernel
theorem d_L_point_8 : decode b_L_point 8 = .ok (.i2l, 1) := by decide +kernel
theorem d_L_point_9 : decode b_L_point 9 = .ok (.lastore, 1) := by decide +kernel
theorem d_L_point_10 : decode b_L_point 10 = .ok (.goto 11, 3) := by decide +kernel
theorem d_L_point_13 : decode b_L_point 13 = .ok (.astore 4, 2) := by decide +kernel
theorem d_L_point_15 : decode b_L_point 15 = .ok (.iconst 1, 1) := by decide +kernel
theorem d_L_point_16 : decode b_L_point 16 = .ok (.ireturn, 1) := by decide +kernel
theorem d_L_point_17 : decode b_L_point 17 = .ok (.astore 4, 2) := by decide +kernel
theorem d_L_point_19 : decode b_L_point 19 = .ok (.iconst 2, 1) := by decide +kernel
theorem d_L_point_20 : decode b_L_point 20 = .ok (.ireturn, 1) := by decide +kernel
theorem d_L_point_21 : decode b_L_point 21 = .ok (.iconst 0, 1) := by decide +kernel
theorem d_L_point_22 : decode b_L_point 22 = .ok (.ireturn, 1) := by decide +kernel
theorem d_L_ray_0 : decode b_L_ray 0 = .ok (.aload_n 3, 1) := by decide +kernel
theorem d_L_ray_1 : decode b_L_ray 1 = .ok (.iconst 0, 1) := by decide +kernel
theorem d_L_ray_2 : decode b_L_ray 2 = .ok (.aload_n 0, 1) := by decide +kernel
theorem d_L_ray_3 : decode b_L_ray 3 = .ok (.iload_n 1, 1) := by decide +kernel
theorem d_L_ray_4 : decode b_L_ray 4 = .ok (.iload_n 2, 1) := by decide +kernel
theorem d_L_ray_5 : decode b_L_ray 5 = .ok (.invokevirtual 31, 3) := by decide +kernel
theorem d_L_ray_8 : decode b_L_ray 8 = .ok (.i2l, 1) := by decide +kernel
theorem d_L_ray_9 : decode b_L_ray 9 = .ok (.lastore, 1) := by decide +kernel
theorem d_L_ray_10 : decode b_L_ray 10 = .ok (.goto 11, 3) := by decide +kernel
theorem d_L_ray_13 : decode b_L_ray 13 = .ok (.astore 4, 2) := by decide +kernel
theorem d_L_ray_15 : decode b_L_ray 15 = .ok (.iconst 1, 1) := by decide +kernel
theorem d_L_ray_16 : decode b_L_ray 16 = .ok (.ireturn, 1) := by decide +kernel
theorem d_L_ray_17 : decode b_L_ray 17 = .ok (.astore 4, 2) := by decide +kernel
theorem d_L_ray_19 : decode b_L_ray 19 = .ok (.iconst 2, 1) := by decide +kernel
theorem d_L_ray_20 : decode b_L_ray 20 = .ok (.ireturn, 1) := by decide +kernel
theorem d_L_ray_21 : decode b_L_ray 21 = .ok (.iconst 0, 1) := by decide +kernel
theorem d_L_ray_22 : decode b_L_ray 22 = .ok (.ireturn, 1) := by decide +kernel
theorem d_L_rays_0 : decode b_L_rays 0 = .ok (.aload_n 1, 1) := by decide +kernel
theorem d_L_rays_1 : decode b_L_rays 1 = .ok (.iconst 0, 1) := by decide +kernel
theorem d_L_rays_2 : decode b_L_rays 2 = .ok (.aload_n 0, 1) := by decide +kernel
theorem d_L_rays_3 : decode b_L_rays 3 = .ok (.invokevirtual 27, 3) := by decide +kernel
theorem d_L_rays_6 : decode b_L_rays 6 = .ok (.i2l, 1) := by decide +kernel
theorem d_L_rays_7 : decode b_L_rays 7 = .ok (.lastore, 1) := by decide +kernel
theorem d_L_rays_8 : decode b_L_rays 8 = .ok (.goto 6, 3) := by decide +kernel
theorem d_L_rays_11 : decode b_L_rays 11 = .ok (.astore_n 2, 1) := by decide +kernel
theorem d_L_rays_12 : decode b_L_rays 12 = .ok (.iconst 1, 1) := by decide +kernel
theorem d_L_rays_13 : decode b_L_rays 13 = .ok (.ireturn, 1) := by decide +kernel
theorem d_L_rays_14 : decode b_L_rays 14 = .ok (.iconst 0, 1) := by decide +kernel
theorem d_L_rays_15 : decode b_L_rays 15 = .ok (.ireturn, 1) := by decide +kernel
theorem d_L_row_0 : decode b_L_row 0 = .ok (.aload_n 3, 1) := by decide +kernel
theorem d_L_row_1 : decode b_L_row 1 = .ok (.iconst 0, 1) := by decide +kernel
theorem d_L_row_2 : decode b_L_row 2 = .ok (.aload_n 0, 1) := by decide +kernel
theorem d_L_row_3 : decode b_L_row 3 = .ok (.iload_n 1, 1) := by decide +kernel
theorem d_L_row_4 : decode b_L_row 4 = .ok (.iload_n 2, 1) := by decide +kernel
theorem d_L_row_5 : decode b_L_row 5 = .ok (.invokevirtual 23, 3) := by decide +kernel
theorem d_L_row_8 : decode b_L_row 8 = .ok (.i2l, 1) := by decide +kernel
theorem d_L_row_9 : decode b_L_row 9 = .ok (.lastore, 1) := by decide +kernel
theorem d_L_row_10 : decode b_L_row 10 = .ok (.goto 7, 3) := by decide +kernel
theorem d_L_row_13 : decode b_L_row 13 = .ok (.astore 4, 2) := by decide +kernel
theorem d_L_row_15 : decode b_L_row 15 = .ok (.iconst 1, 1) := by decide +kernel
theorem d_L_row_16 : decode b_L_row 16 = .ok (.ireturn, 1) := by decide +kernel
theorem d_L_row_17 : decode b_L_row 17 = .ok (.iconst 0, 1) := by decide +kernel
theorem d_L_row_18 : decode b_L_row 18 = .ok (.ireturn, 1) := by decide +kernel
theorem d_L_size_0 : decode b_L_size 0 = .ok (.aload_n 1, 1) := by decide +kernel
theorem d_L_size_1 : decode b_L_size 1 = .ok (.iconst 0, 1) := by decide +kernel
theorem d_L_size_2 : decode b_L_size 2 = .ok (.aload_n 0, 1) := by decide +kernel
theorem d_L_size_3 : decode b_L_size 3 = .ok (.invokevirtual 34, 3) := by decide +kernel
theorem d_L_size_6 : decode b_L_size 6 = .ok (.i2l, 1) := by decide +kernel
theorem d_L_size_7 : decode b_L_size 7 = .ok (.lastore, 1) := by decide +kernel
theorem d_L_size_8 : decode b_L_size 8 = .ok (.goto 6, 3) := by decide +kernel
theorem d_L_size_11 : decode b_L_size 11 = .ok (.astore_n 2, 1) := by decide +kernel
theorem d_L_size_12 : decode b_L_size 12 = .ok (.iconst 1, 1) := by decide +kernel
theorem d_L_size_13 : decode b_L_size 13 = .ok (.ireturn, 1) := by decide +kernel
theorem d_L_size_14 : decode b_L_size 14 = .ok (.iconst 0, 1) := by decide +kernel
theorem d_L_size_15 : decode b_L_size 15 = .ok (.ireturn, 1) := by decide +kernel
