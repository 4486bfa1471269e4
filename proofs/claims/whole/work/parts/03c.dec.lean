theorem dL_key_0 : decode cL_key 0 = .ok (.aload_n 3, 1) := by decide +kernel
theorem dL_key_1 : decode cL_key 1 = .ok (.iconst 0, 1) := by decide +kernel
theorem dL_key_2 : decode cL_key 2 = .ok (.aload_n 0, 1) := by decide +kernel
theorem dL_key_3 : decode cL_key 3 = .ok (.iload_n 1, 1) := by decide +kernel
theorem dL_key_4 : decode cL_key 4 = .ok (.iload_n 2, 1) := by decide +kernel
theorem dL_key_5 : decode cL_key 5 = .ok (.invokevirtual 7, 3) := by decide +kernel
theorem dL_key_8 : decode cL_key 8 = .ok (.i2l, 1) := by decide +kernel
theorem dL_key_9 : decode cL_key 9 = .ok (.lastore, 1) := by decide +kernel
theorem dL_key_10 : decode cL_key 10 = .ok (.goto 11, 3) := by decide +kernel
theorem dL_key_13 : decode cL_key 13 = .ok (.astore 4, 2) := by decide +kernel
theorem dL_key_15 : decode cL_key 15 = .ok (.iconst 1, 1) := by decide +kernel
theorem dL_key_16 : decode cL_key 16 = .ok (.ireturn, 1) := by decide +kernel
theorem dL_key_17 : decode cL_key 17 = .ok (.astore 4, 2) := by decide +kernel
theorem dL_key_19 : decode cL_key 19 = .ok (.iconst 2, 1) := by decide +kernel
theorem dL_key_20 : decode cL_key 20 = .ok (.ireturn, 1) := by decide +kernel
theorem dL_key_21 : decode cL_key 21 = .ok (.iconst 0, 1) := by decide +kernel
theorem dL_key_22 : decode cL_key 22 = .ok (.ireturn, 1) := by decide +kernel
theorem dL_make_0 : decode cL_make 0 = .ok (.aload_n 0, 1) := by decide +kernel
theorem dL_make_1 : decode cL_make 1 = .ok (.iload_n 1, 1) := by decide +kernel
theorem dL_make_2 : decode cL_make 2 = .ok (.iload_n 2, 1) := by decide +kernel
theorem dL_make_3 : decode cL_make 3 = .ok (.iload_n 3, 1) := by decide +kernel
theorem dL_make_4 : decode cL_make 4 = .ok (.invokevirtual 17, 3) := by decide +kernel
theorem dL_make_7 : decode cL_make 7 = .ok (.goto 11, 3) := by decide +kernel
theorem dL_make_10 : decode cL_make 10 = .ok (.astore 4, 2) := by decide +kernel
theorem dL_make_12 : decode cL_make 12 = .ok (.iconst 1, 1) := by decide +kernel
theorem dL_make_13 : decode cL_make 13 = .ok (.ireturn, 1) := by decide +kernel
theorem dL_make_14 : decode cL_make 14 = .ok (.astore 4, 2) := by decide +kernel
theorem dL_make_16 : decode cL_make 16 = .ok (.iconst 2, 1) := by decide +kernel
theorem dL_make_17 : decode cL_make 17 = .ok (.ireturn, 1) := by decide +kernel
theorem dL_make_18 : decode cL_make 18 = .ok (.iconst 0, 1) := by decide +kernel
theorem dL_make_19 : decode cL_make 19 = .ok (.ireturn, 1) := by decide +kernel
theorem dL_set_0 : decode cL_set 0 = .ok (.aload_n 0, 1) := by decide +kernel
theorem dL_set_1 : decode cL_set 1 = .ok (.iload_n 1, 1) := by decide +kernel
theorem dL_set_2 : decode cL_set 2 = .ok (.lload_n 2, 1) := by decide +kernel
theorem dL_set_3 : decode cL_set 3 = .ok (.lload 4, 2) := by decide +kernel
theorem dL_set_5 : decode cL_set 5 = .ok (.invokevirtual 21, 3) := by decide +kernel
theorem dL_set_8 : decode cL_set 8 = .ok (.goto 7, 3) := by decide +kernel
theorem dL_set_11 : decode cL_set 11 = .ok (.astore 6, 2) := by decide +kernel
theorem dL_set_13 : decode cL_set 13 = .ok (.iconst 1, 1) := by decide +kernel
theorem dL_set_14 : decode cL_set 14 = .ok (.ireturn, 1) := by decide +kernel
theorem dL_set_15 : decode cL_set 15 = .ok (.iconst 0, 1) := by decide +kernel
theorem dL_set_16 : decode cL_set 16 = .ok (.ireturn, 1) := by decide +kernel
theorem dL_insert_0 : decode cL_insert 0 = .ok (.aload 5, 2) := by decide +kernel
theorem dL_insert_2 : decode cL_insert 2 = .ok (.iconst 0, 1) := by decide +kernel
theorem dL_insert_3 : decode cL_insert 3 = .ok (.aload_n 0, 1) := by decide +kernel
theorem dL_insert_4 : decode cL_insert 4 = .ok (.iload_n 1, 1) := by decide +kernel
theorem dL_insert_5 : decode cL_insert 5 = .ok (.iload_n 2, 1) := by decide +kernel
theorem dL_insert_6 : decode cL_insert 6 = .ok (.lload_n 3, 1) := by decide +kernel
theorem dL_insert_7 : decode cL_insert 7 = .ok (.invokevirtual 27, 3) := by decide +kernel
theorem dL_insert_10 : decode cL_insert 10 = .ok (.ifCond .eq 7, 3) := by decide +kernel
theorem dL_insert_13 : decode cL_insert 13 = .ok (.lconst 1, 1) := by decide +kernel
theorem dL_insert_14 : decode cL_insert 14 = .ok (.goto 4, 3) := by decide +kernel
theorem dL_insert_17 : decode cL_insert 17 = .ok (.lconst 0, 1) := by decide +kernel
theorem dL_insert_18 : decode cL_insert 18 = .ok (.lastore, 1) := by decide +kernel
theorem dL_insert_19 : decode cL_insert 19 = .ok (.goto 7, 3) := by decide +kernel
theorem dL_insert_22 : decode cL_insert 22 = .ok (.astore 6, 2) := by decide +kernel
theorem dL_insert_24 : decode cL_insert 24 = .ok (.iconst 1, 1) := by decide +kernel
theorem dL_insert_25 : decode cL_insert 25 = .ok (.ireturn, 1) := by decide +kernel
theorem dL_insert_26 : decode cL_insert 26 = .ok (.iconst 0, 1) := by decide +kernel
theorem dL_insert_27 : decode cL_insert 27 = .ok (.ireturn, 1) := by decide +kernel
theorem dL_change_0 : decode cL_change 0 = .ok (.aload 4, 2) := by decide +kernel
theorem dL_change_2 : decode cL_change 2 = .ok (.iconst 0, 1) := by decide +kernel
theorem dL_change_3 : decode cL_change 3 = .ok (.aload_n 0, 1) := by decide +kernel
theorem dL_change_4 : decode cL_change 4 = .ok (.iload_n 1, 1) := by decide +kernel
theorem dL_change_5 : decode cL_change 5 = .ok (.lload_n 2, 1) := by decide +kernel
theorem dL_change_6 : decode cL_change 6 = .ok (.invokevirtual 31, 3) := by decide +kernel
theorem dL_change_9 : decode cL_change 9 = .ok (.ifCond .eq 7, 3) := by decide +kernel
theorem dL_change_12 : decode cL_change 12 = .ok (.lconst 1, 1) := by decide +kernel
theorem dL_change_13 : decode cL_change 13 = .ok (.goto 4, 3) := by decide +kernel
theorem dL_change_16 : decode cL_change 16 = .ok (.lconst 0, 1) := by decide +kernel
theorem dL_change_17 : decode cL_change 17 = .ok (.lastore, 1) := by decide +kernel
theorem dL_change_18 : decode cL_change 18 = .ok (.goto 7, 3) := by decide +kernel
theorem dL_change_21 : decode cL_change 21 = .ok (.astore 5, 2) := by decide +kernel
theorem dL_change_23 : decode cL_change 23 = .ok (.iconst 1, 1) := by decide +kernel
theorem dL_change_24 : decode cL_change 24 = .ok (.ireturn, 1) := by decide +kernel
theorem dL_change_25 : decode cL_change 25 = .ok (.iconst 0, 1) := by decide +kernel
theorem dL_change_26 : decode cL_change 26 = .ok (.ireturn, 1) := by decide +kernel
theorem dL_remove_0 : decode cL_remove 0 = .ok (.aload_n 1, 1) := by decide +kernel
theorem dL_remove_1 : decode cL_remove 1 = .ok (.iconst 0, 1) := by decide +kernel
theorem dL_remove_2 : decode cL_remove 2 = .ok (.aload_n 0, 1) := by decide +kernel
theorem dL_remove_3 : decode cL_remove 3 = .ok (.invokevirtual 35, 3) := by decide +kernel
theorem dL_remove_6 : decode cL_remove 6 = .ok (.ifCond .eq 7, 3) := by decide +kernel
theorem dL_remove_9 : decode cL_remove 9 = .ok (.lconst 1, 1) := by decide +kernel
theorem dL_remove_10 : decode cL_remove 10 = .ok (.goto 4, 3) := by decide +kernel
theorem dL_remove_13 : decode cL_remove 13 = .ok (.lconst 0, 1) := by decide +kernel
theorem dL_remove_14 : decode cL_remove 14 = .ok (.lastore, 1) := by decide +kernel
theorem dL_remove_15 : decode cL_remove 15 = .ok (.goto 6, 3) := by decide +kernel
theorem dL_remove_18 : decode cL_remove 18 = .ok (.astore_n 2, 1) := by decide +kernel
theorem dL_remove_19 : decode cL_remove 19 = .ok (.iconst 1, 1) := by decide +kernel
theorem dL_remove_20 : decode cL_remove 20 = .ok (.ireturn, 1) := by decide +kernel
theorem dL_remove_21 : decode cL_remove 21 = .ok (.iconst 0, 1) := by decide +kernel
theorem dL_remove_22 : decode cL_remove 22 = .ok (.ireturn, 1) := by decide +kernel
theorem dL_match_0 : decode cL_match 0 = .ok (.aload_n 1, 1) := by decide +kernel
theorem dL_match_1 : decode cL_match 1 = .ok (.iconst 0, 1) := by decide +kernel
theorem dL_match_2 : decode cL_match 2 = .ok (.aload_n 0, 1) := by decide +kernel
theorem dL_match_3 : decode cL_match 3 = .ok (.invokevirtual 39, 3) := by decide +kernel
theorem dL_match_6 : decode cL_match 6 = .ok (.i2l, 1) := by decide +kernel
theorem dL_match_7 : decode cL_match 7 = .ok (.lastore, 1) := by decide +kernel
theorem dL_match_8 : decode cL_match 8 = .ok (.goto 6, 3) := by decide +kernel
theorem dL_match_11 : decode cL_match 11 = .ok (.astore_n 2, 1) := by decide +kernel
theorem dL_match_12 : decode cL_match 12 = .ok (.iconst 1, 1) := by decide +kernel
theorem dL_match_13 : decode cL_match 13 = .ok (.ireturn, 1) := by decide +kernel
theorem dL_match_14 : decode cL_match 14 = .ok (.iconst 0, 1) := by decide +kernel
theorem dL_match_15 : decode cL_match 15 = .ok (.ireturn, 1) := by decide +kernel
theorem dL_law_0 : decode cL_law 0 = .ok (.new 8, 3) := by decide +kernel
theorem dL_law_3 : decode cL_law 3 = .ok (.dup, 1) := by decide +kernel
theorem dL_law_4 : decode cL_law 4 = .ok (.invokespecial 43, 3) := by decide +kernel
theorem dL_law_7 : decode cL_law 7 = .ok (.astore_n 1, 1) := by decide +kernel
theorem dL_law_8 : decode cL_law 8 = .ok (.new 44, 3) := by decide +kernel
theorem dL_law_11 : decode cL_law 11 = .ok (.dup, 1) := by decide +kernel
theorem dL_law_12 : decode cL_law 12 = .ok (.invokespecial 46, 3) := by decide +kernel
theorem dL_law_15 : decode cL_law 15 = .ok (.astore_n 2, 1) := by decide +kernel
theorem dL_law_16 : decode cL_law 16 = .ok (.iconst 1, 1) := by decide +kernel
theorem dL_law_17 : decode cL_law 17 = .ok (.newarray .long, 2) := by decide +kernel
theorem dL_law_19 : decode cL_law 19 = .ok (.astore_n 3, 1) := by decide +kernel
theorem dL_law_20 : decode cL_law 20 = .ok (.iconst 0, 1) := by decide +kernel
theorem dL_law_21 : decode cL_law 21 = .ok (.istore 4, 2) := by decide +kernel
theorem dL_law_23 : decode cL_law 23 = .ok (.iload 4, 2) := by decide +kernel
theorem dL_law_25 : decode cL_law 25 = .ok (.aload_n 0, 1) := by decide +kernel
theorem dL_law_26 : decode cL_law 26 = .ok (.arraylength, 1) := by decide +kernel
theorem dL_law_27 : decode cL_law 27 = .ok (.bipush 6, 2) := by decide +kernel
theorem dL_law_29 : decode cL_law 29 = .ok (.isub, 1) := by decide +kernel
theorem dL_law_30 : decode cL_law 30 = .ok (.if_icmp .gt 712, 3) := by decide +kernel
theorem dL_law_33 : decode cL_law 33 = .ok (.aload_n 0, 1) := by decide +kernel
theorem dL_law_34 : decode cL_law 34 = .ok (.iload 4, 2) := by decide +kernel
theorem dL_law_36 : decode cL_law 36 = .ok (.iaload, 1) := by decide +kernel
theorem dL_law_37 : decode cL_law 37 = .ok (.bipush 15, 2) := by decide +kernel
theorem dL_law_39 : decode cL_law 39 = .ok (.iand, 1) := by decide +kernel
theorem dL_law_40 : decode cL_law 40 = .ok (.tableswitch 696 0 10 #[60, 71, 139, 199, 323, 442, 549, 600, 644, 658, 671], 60) := by decide +kernel
theorem dL_law_100 : decode cL_law 100 = .ok (.aload_n 1, 1) := by decide +kernel
theorem dL_law_101 : decode cL_law 101 = .ok (.invokevirtual 47, 3) := by decide +kernel
theorem dL_law_104 : decode cL_law 104 = .ok (.aload_n 2, 1) := by decide +kernel
theorem dL_law_105 : decode cL_law 105 = .ok (.invokevirtual 50, 3) := by decide +kernel
theorem dL_law_108 : decode cL_law 108 = .ok (.goto 628, 3) := by decide +kernel
theorem dL_law_111 : decode cL_law 111 = .ok (.aload_n 1, 1) := by decide +kernel
theorem dL_law_112 : decode cL_law 112 = .ok (.aload_n 0, 1) := by decide +kernel
theorem dL_law_113 : decode cL_law 113 = .ok (.iload 4, 2) := by decide +kernel
theorem dL_law_115 : decode cL_law 115 = .ok (.iconst 1, 1) := by decide +kernel
theorem dL_law_116 : decode cL_law 116 = .ok (.iadd, 1) := by decide +kernel
theorem dL_law_117 : decode cL_law 117 = .ok (.iaload, 1) := by decide +kernel
theorem dL_law_118 : decode cL_law 118 = .ok (.aload_n 0, 1) := by decide +kernel
theorem dL_law_119 : decode cL_law 119 = .ok (.iload 4, 2) := by decide +kernel
theorem dL_law_121 : decode cL_law 121 = .ok (.iconst 2, 1) := by decide +kernel
theorem dL_law_122 : decode cL_law 122 = .ok (.iadd, 1) := by decide +kernel
theorem dL_law_123 : decode cL_law 123 = .ok (.iaload, 1) := by decide +kernel
theorem dL_law_124 : decode cL_law 124 = .ok (.aload_n 3, 1) := by decide +kernel
theorem dL_law_125 : decode cL_law 125 = .ok (.invokestatic 51, 3) := by decide +kernel
theorem dL_law_128 : decode cL_law 128 = .ok (.istore 5, 2) := by decide +kernel
theorem dL_law_130 : decode cL_law 130 = .ok (.aload_n 2, 1) := by decide +kernel
theorem dL_law_131 : decode cL_law 131 = .ok (.aload_n 0, 1) := by decide +kernel
theorem dL_law_132 : decode cL_law 132 = .ok (.iload 4, 2) := by decide +kernel
theorem dL_law_134 : decode cL_law 134 = .ok (.iconst 1, 1) := by decide +kernel
theorem dL_law_135 : decode cL_law 135 = .ok (.iadd, 1) := by decide +kernel
theorem dL_law_136 : decode cL_law 136 = .ok (.iaload, 1) := by decide +kernel
theorem dL_law_137 : decode cL_law 137 = .ok (.aload_n 0, 1) := by decide +kernel
theorem dL_law_138 : decode cL_law 138 = .ok (.iload 4, 2) := by decide +kernel
theorem dL_law_140 : decode cL_law 140 = .ok (.iconst 2, 1) := by decide +kernel
theorem dL_law_141 : decode cL_law 141 = .ok (.iadd, 1) := by decide +kernel
theorem dL_law_142 : decode cL_law 142 = .ok (.iaload, 1) := by decide +kernel
theorem dL_law_143 : decode cL_law 143 = .ok (.invokevirtual 56, 3) := by decide +kernel
theorem dL_law_146 : decode cL_law 146 = .ok (.istore 6, 2) := by decide +kernel
theorem dL_law_148 : decode cL_law 148 = .ok (.aload_n 2, 1) := by decide +kernel
theorem dL_law_149 : decode cL_law 149 = .ok (.invokevirtual 57, 3) := by decide +kernel
theorem dL_law_152 : decode cL_law 152 = .ok (.iload 5, 2) := by decide +kernel
theorem dL_law_154 : decode cL_law 154 = .ok (.if_icmp .eq 5, 3) := by decide +kernel
theorem dL_law_157 : decode cL_law 157 = .ok (.iconst 0, 1) := by decide +kernel
theorem dL_law_158 : decode cL_law 158 = .ok (.ireturn, 1) := by decide +kernel
theorem dL_law_159 : decode cL_law 159 = .ok (.iload 5, 2) := by decide +kernel
theorem dL_law_161 : decode cL_law 161 = .ok (.ifCond .ne 15, 3) := by decide +kernel
theorem dL_law_164 : decode cL_law 164 = .ok (.aload_n 3, 1) := by decide +kernel
theorem dL_law_165 : decode cL_law 165 = .ok (.iconst 0, 1) := by decide +kernel
theorem dL_law_166 : decode cL_law 166 = .ok (.laload, 1) := by decide +kernel
theorem dL_law_167 : decode cL_law 167 = .ok (.iload 6, 2) := by decide +kernel
theorem dL_law_169 : decode cL_law 169 = .ok (.i2l, 1) := by decide +kernel
theorem dL_law_170 : decode cL_law 170 = .ok (.lcmp, 1) := by decide +kernel
theorem dL_law_171 : decode cL_law 171 = .ok (.ifCond .eq 5, 3) := by decide +kernel
theorem dL_law_174 : decode cL_law 174 = .ok (.iconst 0, 1) := by decide +kernel
theorem dL_law_175 : decode cL_law 175 = .ok (.ireturn, 1) := by decide +kernel
theorem dL_law_176 : decode cL_law 176 = .ok (.goto 560, 3) := by decide +kernel
theorem dL_law_179 : decode cL_law 179 = .ok (.aload_n 1, 1) := by decide +kernel
theorem dL_law_180 : decode cL_law 180 = .ok (.aload_n 0, 1) := by decide +kernel
theorem dL_law_181 : decode cL_law 181 = .ok (.iload 4, 2) := by decide +kernel
theorem dL_law_183 : decode cL_law 183 = .ok (.iconst 1, 1) := by decide +kernel
theorem dL_law_184 : decode cL_law 184 = .ok (.iadd, 1) := by decide +kernel
theorem dL_law_185 : decode cL_law 185 = .ok (.iaload, 1) := by decide +kernel
theorem dL_law_186 : decode cL_law 186 = .ok (.aload_n 0, 1) := by decide +kernel
theorem dL_law_187 : decode cL_law 187 = .ok (.iload 4, 2) := by decide +kernel
theorem dL_law_189 : decode cL_law 189 = .ok (.iconst 2, 1) := by decide +kernel
theorem dL_law_190 : decode cL_law 190 = .ok (.iadd, 1) := by decide +kernel
theorem dL_law_191 : decode cL_law 191 = .ok (.iaload, 1) := by decide +kernel
theorem dL_law_192 : decode cL_law 192 = .ok (.aload_n 0, 1) := by decide +kernel
theorem dL_law_193 : decode cL_law 193 = .ok (.iload 4, 2) := by decide +kernel
theorem dL_law_195 : decode cL_law 195 = .ok (.iconst 3, 1) := by decide +kernel
theorem dL_law_196 : decode cL_law 196 = .ok (.iadd, 1) := by decide +kernel
theorem dL_law_197 : decode cL_law 197 = .ok (.iaload, 1) := by decide +kernel
theorem dL_law_198 : decode cL_law 198 = .ok (.invokestatic 60, 3) := by decide +kernel
theorem dL_law_201 : decode cL_law 201 = .ok (.istore 5, 2) := by decide +kernel
theorem dL_law_203 : decode cL_law 203 = .ok (.aload_n 2, 1) := by decide +kernel
theorem dL_law_204 : decode cL_law 204 = .ok (.aload_n 0, 1) := by decide +kernel
theorem dL_law_205 : decode cL_law 205 = .ok (.iload 4, 2) := by decide +kernel
theorem dL_law_207 : decode cL_law 207 = .ok (.iconst 1, 1) := by decide +kernel
theorem dL_law_208 : decode cL_law 208 = .ok (.iadd, 1) := by decide +kernel
theorem dL_law_209 : decode cL_law 209 = .ok (.iaload, 1) := by decide +kernel
theorem dL_law_210 : decode cL_law 210 = .ok (.aload_n 0, 1) := by decide +kernel
theorem dL_law_211 : decode cL_law 211 = .ok (.iload 4, 2) := by decide +kernel
theorem dL_law_213 : decode cL_law 213 = .ok (.iconst 2, 1) := by decide +kernel
theorem dL_law_214 : decode cL_law 214 = .ok (.iadd, 1) := by decide +kernel
theorem dL_law_215 : decode cL_law 215 = .ok (.iaload, 1) := by decide +kernel
theorem dL_law_216 : decode cL_law 216 = .ok (.aload_n 0, 1) := by decide +kernel
theorem dL_law_217 : decode cL_law 217 = .ok (.iload 4, 2) := by decide +kernel
theorem dL_law_219 : decode cL_law 219 = .ok (.iconst 3, 1) := by decide +kernel
theorem dL_law_220 : decode cL_law 220 = .ok (.iadd, 1) := by decide +kernel
theorem dL_law_221 : decode cL_law 221 = .ok (.iaload, 1) := by decide +kernel
theorem dL_law_222 : decode cL_law 222 = .ok (.invokevirtual 63, 3) := by decide +kernel
theorem dL_law_225 : decode cL_law 225 = .ok (.aload_n 2, 1) := by decide +kernel
theorem dL_law_226 : decode cL_law 226 = .ok (.invokevirtual 57, 3) := by decide +kernel
theorem dL_law_229 : decode cL_law 229 = .ok (.iload 5, 2) := by decide +kernel
theorem dL_law_231 : decode cL_law 231 = .ok (.if_icmp .eq 5, 3) := by decide +kernel
theorem dL_law_234 : decode cL_law 234 = .ok (.iconst 0, 1) := by decide +kernel
theorem dL_law_235 : decode cL_law 235 = .ok (.ireturn, 1) := by decide +kernel
theorem dL_law_236 : decode cL_law 236 = .ok (.goto 500, 3) := by decide +kernel
theorem dL_law_239 : decode cL_law 239 = .ok (.aload_n 1, 1) := by decide +kernel
theorem dL_law_240 : decode cL_law 240 = .ok (.aload_n 0, 1) := by decide +kernel
theorem dL_law_241 : decode cL_law 241 = .ok (.iload 4, 2) := by decide +kernel
theorem dL_law_243 : decode cL_law 243 = .ok (.iconst 1, 1) := by decide +kernel
theorem dL_law_244 : decode cL_law 244 = .ok (.iadd, 1) := by decide +kernel
theorem dL_law_245 : decode cL_law 245 = .ok (.iaload, 1) := by decide +kernel
theorem dL_law_246 : decode cL_law 246 = .ok (.aload_n 0, 1) := by decide +kernel
theorem dL_law_247 : decode cL_law 247 = .ok (.iload 4, 2) := by decide +kernel
theorem dL_law_249 : decode cL_law 249 = .ok (.iconst 2, 1) := by decide +kernel
theorem dL_law_250 : decode cL_law 250 = .ok (.iadd, 1) := by decide +kernel
theorem dL_law_251 : decode cL_law 251 = .ok (.iaload, 1) := by decide +kernel
theorem dL_law_252 : decode cL_law 252 = .ok (.i2l, 1) := by decide +kernel
theorem dL_law_253 : decode cL_law 253 = .ok (.bipush 32, 2) := by decide +kernel
theorem dL_law_255 : decode cL_law 255 = .ok (.lshl, 1) := by decide +kernel
theorem dL_law_256 : decode cL_law 256 = .ok (.aload_n 0, 1) := by decide +kernel
theorem dL_law_257 : decode cL_law 257 = .ok (.iload 4, 2) := by decide +kernel
theorem dL_law_259 : decode cL_law 259 = .ok (.iconst 3, 1) := by decide +kernel
theorem dL_law_260 : decode cL_law 260 = .ok (.iadd, 1) := by decide +kernel
theorem dL_law_261 : decode cL_law 261 = .ok (.iaload, 1) := by decide +kernel
theorem dL_law_262 : decode cL_law 262 = .ok (.i2l, 1) := by decide +kernel
theorem dL_law_263 : decode cL_law 263 = .ok (.ldc2_w 64, 3) := by decide +kernel
theorem dL_law_266 : decode cL_law 266 = .ok (.land, 1) := by decide +kernel
theorem dL_law_267 : decode cL_law 267 = .ok (.lor, 1) := by decide +kernel
theorem dL_law_268 : decode cL_law 268 = .ok (.aload_n 0, 1) := by decide +kernel
theorem dL_law_269 : decode cL_law 269 = .ok (.iload 4, 2) := by decide +kernel
theorem dL_law_271 : decode cL_law 271 = .ok (.iconst 4, 1) := by decide +kernel
theorem dL_law_272 : decode cL_law 272 = .ok (.iadd, 1) := by decide +kernel
theorem dL_law_273 : decode cL_law 273 = .ok (.iaload, 1) := by decide +kernel
theorem dL_law_274 : decode cL_law 274 = .ok (.i2l, 1) := by decide +kernel
theorem dL_law_275 : decode cL_law 275 = .ok (.bipush 32, 2) := by decide +kernel
theorem dL_law_277 : decode cL_law 277 = .ok (.lshl, 1) := by decide +kernel
theorem dL_law_278 : decode cL_law 278 = .ok (.aload_n 0, 1) := by decide +kernel
theorem dL_law_279 : decode cL_law 279 = .ok (.iload 4, 2) := by decide +kernel
theorem dL_law_281 : decode cL_law 281 = .ok (.iconst 5, 1) := by decide +kernel
theorem dL_law_282 : decode cL_law 282 = .ok (.iadd, 1) := by decide +kernel
theorem dL_law_283 : decode cL_law 283 = .ok (.iaload, 1) := by decide +kernel
theorem dL_law_284 : decode cL_law 284 = .ok (.i2l, 1) := by decide +kernel
theorem dL_law_285 : decode cL_law 285 = .ok (.ldc2_w 64, 3) := by decide +kernel
theorem dL_law_288 : decode cL_law 288 = .ok (.land, 1) := by decide +kernel
theorem dL_law_289 : decode cL_law 289 = .ok (.lor, 1) := by decide +kernel
theorem dL_law_290 : decode cL_law 290 = .ok (.invokestatic 66, 3) := by decide +kernel
theorem dL_law_293 : decode cL_law 293 = .ok (.istore 5, 2) := by decide +kernel
theorem dL_law_295 : decode cL_law 295 = .ok (.aload_n 2, 1) := by decide +kernel
theorem dL_law_296 : decode cL_law 296 = .ok (.aload_n 0, 1) := by decide +kernel
theorem dL_law_297 : decode cL_law 297 = .ok (.iload 4, 2) := by decide +kernel
theorem dL_law_299 : decode cL_law 299 = .ok (.iconst 1, 1) := by decide +kernel
theorem dL_law_300 : decode cL_law 300 = .ok (.iadd, 1) := by decide +kernel
theorem dL_law_301 : decode cL_law 301 = .ok (.iaload, 1) := by decide +kernel
theorem dL_law_302 : decode cL_law 302 = .ok (.aload_n 0, 1) := by decide +kernel
theorem dL_law_303 : decode cL_law 303 = .ok (.iload 4, 2) := by decide +kernel
theorem dL_law_305 : decode cL_law 305 = .ok (.iconst 2, 1) := by decide +kernel
theorem dL_law_306 : decode cL_law 306 = .ok (.iadd, 1) := by decide +kernel
theorem dL_law_307 : decode cL_law 307 = .ok (.iaload, 1) := by decide +kernel
theorem dL_law_308 : decode cL_law 308 = .ok (.i2l, 1) := by decide +kernel
theorem dL_law_309 : decode cL_law 309 = .ok (.bipush 32, 2) := by decide +kernel
theorem dL_law_311 : decode cL_law 311 = .ok (.lshl, 1) := by decide +kernel
theorem dL_law_312 : decode cL_law 312 = .ok (.aload_n 0, 1) := by decide +kernel
theorem dL_law_313 : decode cL_law 313 = .ok (.iload 4, 2) := by decide +kernel
theorem dL_law_315 : decode cL_law 315 = .ok (.iconst 3, 1) := by decide +kernel
theorem dL_law_316 : decode cL_law 316 = .ok (.iadd, 1) := by decide +kernel
theorem dL_law_317 : decode cL_law 317 = .ok (.iaload, 1) := by decide +kernel
theorem dL_law_318 : decode cL_law 318 = .ok (.i2l, 1) := by decide +kernel
theorem dL_law_319 : decode cL_law 319 = .ok (.ldc2_w 64, 3) := by decide +kernel
theorem dL_law_322 : decode cL_law 322 = .ok (.land, 1) := by decide +kernel
theorem dL_law_323 : decode cL_law 323 = .ok (.lor, 1) := by decide +kernel
theorem dL_law_324 : decode cL_law 324 = .ok (.aload_n 0, 1) := by decide +kernel
theorem dL_law_325 : decode cL_law 325 = .ok (.iload 4, 2) := by decide +kernel
theorem dL_law_327 : decode cL_law 327 = .ok (.iconst 4, 1) := by decide +kernel
theorem dL_law_328 : decode cL_law 328 = .ok (.iadd, 1) := by decide +kernel
theorem dL_law_329 : decode cL_law 329 = .ok (.iaload, 1) := by decide +kernel
theorem dL_law_330 : decode cL_law 330 = .ok (.i2l, 1) := by decide +kernel
theorem dL_law_331 : decode cL_law 331 = .ok (.bipush 32, 2) := by decide +kernel
theorem dL_law_333 : decode cL_law 333 = .ok (.lshl, 1) := by decide +kernel
theorem dL_law_334 : decode cL_law 334 = .ok (.aload_n 0, 1) := by decide +kernel
theorem dL_law_335 : decode cL_law 335 = .ok (.iload 4, 2) := by decide +kernel
theorem dL_law_337 : decode cL_law 337 = .ok (.iconst 5, 1) := by decide +kernel
theorem dL_law_338 : decode cL_law 338 = .ok (.iadd, 1) := by decide +kernel
theorem dL_law_339 : decode cL_law 339 = .ok (.iaload, 1) := by decide +kernel
theorem dL_law_340 : decode cL_law 340 = .ok (.i2l, 1) := by decide +kernel
theorem dL_law_341 : decode cL_law 341 = .ok (.ldc2_w 64, 3) := by decide +kernel
theorem dL_law_344 : decode cL_law 344 = .ok (.land, 1) := by decide +kernel
theorem dL_law_345 : decode cL_law 345 = .ok (.lor, 1) := by decide +kernel
theorem dL_law_346 : decode cL_law 346 = .ok (.invokevirtual 69, 3) := by decide +kernel
theorem dL_law_349 : decode cL_law 349 = .ok (.aload_n 2, 1) := by decide +kernel
theorem dL_law_350 : decode cL_law 350 = .ok (.invokevirtual 57, 3) := by decide +kernel
theorem dL_law_353 : decode cL_law 353 = .ok (.iload 5, 2) := by decide +kernel
theorem dL_law_355 : decode cL_law 355 = .ok (.if_icmp .eq 5, 3) := by decide +kernel
theorem dL_law_358 : decode cL_law 358 = .ok (.iconst 0, 1) := by decide +kernel
theorem dL_law_359 : decode cL_law 359 = .ok (.ireturn, 1) := by decide +kernel
theorem dL_law_360 : decode cL_law 360 = .ok (.goto 376, 3) := by decide +kernel
theorem dL_law_363 : decode cL_law 363 = .ok (.aload_n 1, 1) := by decide +kernel
theorem dL_law_364 : decode cL_law 364 = .ok (.aload_n 0, 1) := by decide +kernel
theorem dL_law_365 : decode cL_law 365 = .ok (.iload 4, 2) := by decide +kernel
theorem dL_law_367 : decode cL_law 367 = .ok (.iconst 1, 1) := by decide +kernel
theorem dL_law_368 : decode cL_law 368 = .ok (.iadd, 1) := by decide +kernel
theorem dL_law_369 : decode cL_law 369 = .ok (.iaload, 1) := by decide +kernel
theorem dL_law_370 : decode cL_law 370 = .ok (.aload_n 0, 1) := by decide +kernel
theorem dL_law_371 : decode cL_law 371 = .ok (.iload 4, 2) := by decide +kernel
theorem dL_law_373 : decode cL_law 373 = .ok (.iconst 2, 1) := by decide +kernel
theorem dL_law_374 : decode cL_law 374 = .ok (.iadd, 1) := by decide +kernel
theorem dL_law_375 : decode cL_law 375 = .ok (.iaload, 1) := by decide +kernel
theorem dL_law_376 : decode cL_law 376 = .ok (.aload_n 0, 1) := by decide +kernel
theorem dL_law_377 : decode cL_law 377 = .ok (.iload 4, 2) := by decide +kernel
theorem dL_law_379 : decode cL_law 379 = .ok (.iconst 3, 1) := by decide +kernel
theorem dL_law_380 : decode cL_law 380 = .ok (.iadd, 1) := by decide +kernel
theorem dL_law_381 : decode cL_law 381 = .ok (.iaload, 1) := by decide +kernel
theorem dL_law_382 : decode cL_law 382 = .ok (.i2l, 1) := by decide +kernel
theorem dL_law_383 : decode cL_law 383 = .ok (.bipush 32, 2) := by decide +kernel
theorem dL_law_385 : decode cL_law 385 = .ok (.lshl, 1) := by decide +kernel
theorem dL_law_386 : decode cL_law 386 = .ok (.aload_n 0, 1) := by decide +kernel
theorem dL_law_387 : decode cL_law 387 = .ok (.iload 4, 2) := by decide +kernel
theorem dL_law_389 : decode cL_law 389 = .ok (.iconst 4, 1) := by decide +kernel
theorem dL_law_390 : decode cL_law 390 = .ok (.iadd, 1) := by decide +kernel
theorem dL_law_391 : decode cL_law 391 = .ok (.iaload, 1) := by decide +kernel
theorem dL_law_392 : decode cL_law 392 = .ok (.i2l, 1) := by decide +kernel
theorem dL_law_393 : decode cL_law 393 = .ok (.ldc2_w 64, 3) := by decide +kernel
theorem dL_law_396 : decode cL_law 396 = .ok (.land, 1) := by decide +kernel
theorem dL_law_397 : decode cL_law 397 = .ok (.lor, 1) := by decide +kernel
theorem dL_law_398 : decode cL_law 398 = .ok (.aload_n 3, 1) := by decide +kernel
theorem dL_law_399 : decode cL_law 399 = .ok (.invokestatic 70, 3) := by decide +kernel
theorem dL_law_402 : decode cL_law 402 = .ok (.istore 5, 2) := by decide +kernel
theorem dL_law_404 : decode cL_law 404 = .ok (.aload_n 2, 1) := by decide +kernel
theorem dL_law_405 : decode cL_law 405 = .ok (.aload_n 0, 1) := by decide +kernel
theorem dL_law_406 : decode cL_law 406 = .ok (.iload 4, 2) := by decide +kernel
theorem dL_law_408 : decode cL_law 408 = .ok (.iconst 1, 1) := by decide +kernel
theorem dL_law_409 : decode cL_law 409 = .ok (.iadd, 1) := by decide +kernel
theorem dL_law_410 : decode cL_law 410 = .ok (.iaload, 1) := by decide +kernel
theorem dL_law_411 : decode cL_law 411 = .ok (.aload_n 0, 1) := by decide +kernel
theorem dL_law_412 : decode cL_law 412 = .ok (.iload 4, 2) := by decide +kernel
theorem dL_law_414 : decode cL_law 414 = .ok (.iconst 2, 1) := by decide +kernel
theorem dL_law_415 : decode cL_law 415 = .ok (.iadd, 1) := by decide +kernel
theorem dL_law_416 : decode cL_law 416 = .ok (.iaload, 1) := by decide +kernel
theorem dL_law_417 : decode cL_law 417 = .ok (.aload_n 0, 1) := by decide +kernel
theorem dL_law_418 : decode cL_law 418 = .ok (.iload 4, 2) := by decide +kernel
theorem dL_law_420 : decode cL_law 420 = .ok (.iconst 3, 1) := by decide +kernel
theorem dL_law_421 : decode cL_law 421 = .ok (.iadd, 1) := by decide +kernel
theorem dL_law_422 : decode cL_law 422 = .ok (.iaload, 1) := by decide +kernel
theorem dL_law_423 : decode cL_law 423 = .ok (.i2l, 1) := by decide +kernel
theorem dL_law_424 : decode cL_law 424 = .ok (.bipush 32, 2) := by decide +kernel
theorem dL_law_426 : decode cL_law 426 = .ok (.lshl, 1) := by decide +kernel
theorem dL_law_427 : decode cL_law 427 = .ok (.aload_n 0, 1) := by decide +kernel
theorem dL_law_428 : decode cL_law 428 = .ok (.iload 4, 2) := by decide +kernel
theorem dL_law_430 : decode cL_law 430 = .ok (.iconst 4, 1) := by decide +kernel
theorem dL_law_431 : decode cL_law 431 = .ok (.iadd, 1) := by decide +kernel
theorem dL_law_432 : decode cL_law 432 = .ok (.iaload, 1) := by decide +kernel
theorem dL_law_433 : decode cL_law 433 = .ok (.i2l, 1) := by decide +kernel
theorem dL_law_434 : decode cL_law 434 = .ok (.ldc2_w 64, 3) := by decide +kernel
theorem dL_law_437 : decode cL_law 437 = .ok (.land, 1) := by decide +kernel
theorem dL_law_438 : decode cL_law 438 = .ok (.lor, 1) := by decide +kernel
theorem dL_law_439 : decode cL_law 439 = .ok (.invokevirtual 73, 3) := by decide +kernel
theorem dL_law_442 : decode cL_law 442 = .ok (.istore 6, 2) := by decide +kernel
theorem dL_law_444 : decode cL_law 444 = .ok (.aload_n 2, 1) := by decide +kernel
theorem dL_law_445 : decode cL_law 445 = .ok (.invokevirtual 57, 3) := by decide +kernel
theorem dL_law_448 : decode cL_law 448 = .ok (.iload 5, 2) := by decide +kernel
theorem dL_law_450 : decode cL_law 450 = .ok (.if_icmp .eq 5, 3) := by decide +kernel
theorem dL_law_453 : decode cL_law 453 = .ok (.iconst 0, 1) := by decide +kernel
theorem dL_law_454 : decode cL_law 454 = .ok (.ireturn, 1) := by decide +kernel
theorem dL_law_455 : decode cL_law 455 = .ok (.iload 5, 2) := by decide +kernel
theorem dL_law_457 : decode cL_law 457 = .ok (.ifCond .ne 22, 3) := by decide +kernel
theorem dL_law_460 : decode cL_law 460 = .ok (.aload_n 3, 1) := by decide +kernel
theorem dL_law_461 : decode cL_law 461 = .ok (.iconst 0, 1) := by decide +kernel
theorem dL_law_462 : decode cL_law 462 = .ok (.laload, 1) := by decide +kernel
theorem dL_law_463 : decode cL_law 463 = .ok (.iload 6, 2) := by decide +kernel
theorem dL_law_465 : decode cL_law 465 = .ok (.ifCond .eq 7, 3) := by decide +kernel
theorem dL_law_468 : decode cL_law 468 = .ok (.lconst 1, 1) := by decide +kernel
theorem dL_law_469 : decode cL_law 469 = .ok (.goto 4, 3) := by decide +kernel
theorem dL_law_472 : decode cL_law 472 = .ok (.lconst 0, 1) := by decide +kernel
theorem dL_law_473 : decode cL_law 473 = .ok (.lcmp, 1) := by decide +kernel
theorem dL_law_474 : decode cL_law 474 = .ok (.ifCond .eq 5, 3) := by decide +kernel
theorem dL_law_477 : decode cL_law 477 = .ok (.iconst 0, 1) := by decide +kernel
theorem dL_law_478 : decode cL_law 478 = .ok (.ireturn, 1) := by decide +kernel
theorem dL_law_479 : decode cL_law 479 = .ok (.goto 257, 3) := by decide +kernel
theorem dL_law_482 : decode cL_law 482 = .ok (.aload_n 1, 1) := by decide +kernel
theorem dL_law_483 : decode cL_law 483 = .ok (.aload_n 0, 1) := by decide +kernel
theorem dL_law_484 : decode cL_law 484 = .ok (.iload 4, 2) := by decide +kernel
theorem dL_law_486 : decode cL_law 486 = .ok (.iconst 1, 1) := by decide +kernel
theorem dL_law_487 : decode cL_law 487 = .ok (.iadd, 1) := by decide +kernel
theorem dL_law_488 : decode cL_law 488 = .ok (.iaload, 1) := by decide +kernel
theorem dL_law_489 : decode cL_law 489 = .ok (.aload_n 0, 1) := by decide +kernel
theorem dL_law_490 : decode cL_law 490 = .ok (.iload 4, 2) := by decide +kernel
theorem dL_law_492 : decode cL_law 492 = .ok (.iconst 2, 1) := by decide +kernel
theorem dL_law_493 : decode cL_law 493 = .ok (.iadd, 1) := by decide +kernel
theorem dL_law_494 : decode cL_law 494 = .ok (.iaload, 1) := by decide +kernel
theorem dL_law_495 : decode cL_law 495 = .ok (.i2l, 1) := by decide +kernel
theorem dL_law_496 : decode cL_law 496 = .ok (.bipush 32, 2) := by decide +kernel
theorem dL_law_498 : decode cL_law 498 = .ok (.lshl, 1) := by decide +kernel
theorem dL_law_499 : decode cL_law 499 = .ok (.aload_n 0, 1) := by decide +kernel
theorem dL_law_500 : decode cL_law 500 = .ok (.iload 4, 2) := by decide +kernel
theorem dL_law_502 : decode cL_law 502 = .ok (.iconst 3, 1) := by decide +kernel
theorem dL_law_503 : decode cL_law 503 = .ok (.iadd, 1) := by decide +kernel
theorem dL_law_504 : decode cL_law 504 = .ok (.iaload, 1) := by decide +kernel
theorem dL_law_505 : decode cL_law 505 = .ok (.i2l, 1) := by decide +kernel
theorem dL_law_506 : decode cL_law 506 = .ok (.ldc2_w 64, 3) := by decide +kernel
theorem dL_law_509 : decode cL_law 509 = .ok (.land, 1) := by decide +kernel
theorem dL_law_510 : decode cL_law 510 = .ok (.lor, 1) := by decide +kernel
theorem dL_law_511 : decode cL_law 511 = .ok (.aload_n 3, 1) := by decide +kernel
theorem dL_law_512 : decode cL_law 512 = .ok (.invokestatic 74, 3) := by decide +kernel
theorem dL_law_515 : decode cL_law 515 = .ok (.istore 5, 2) := by decide +kernel
theorem dL_law_517 : decode cL_law 517 = .ok (.aload_n 2, 1) := by decide +kernel
theorem dL_law_518 : decode cL_law 518 = .ok (.aload_n 0, 1) := by decide +kernel
theorem dL_law_519 : decode cL_law 519 = .ok (.iload 4, 2) := by decide +kernel
theorem dL_law_521 : decode cL_law 521 = .ok (.iconst 1, 1) := by decide +kernel
theorem dL_law_522 : decode cL_law 522 = .ok (.iadd, 1) := by decide +kernel
theorem dL_law_523 : decode cL_law 523 = .ok (.iaload, 1) := by decide +kernel
theorem dL_law_524 : decode cL_law 524 = .ok (.aload_n 0, 1) := by decide +kernel
theorem dL_law_525 : decode cL_law 525 = .ok (.iload 4, 2) := by decide +kernel
theorem dL_law_527 : decode cL_law 527 = .ok (.iconst 2, 1) := by decide +kernel
theorem dL_law_528 : decode cL_law 528 = .ok (.iadd, 1) := by decide +kernel
theorem dL_law_529 : decode cL_law 529 = .ok (.iaload, 1) := by decide +kernel
theorem dL_law_530 : decode cL_law 530 = .ok (.i2l, 1) := by decide +kernel
theorem dL_law_531 : decode cL_law 531 = .ok (.bipush 32, 2) := by decide +kernel
theorem dL_law_533 : decode cL_law 533 = .ok (.lshl, 1) := by decide +kernel
theorem dL_law_534 : decode cL_law 534 = .ok (.aload_n 0, 1) := by decide +kernel
theorem dL_law_535 : decode cL_law 535 = .ok (.iload 4, 2) := by decide +kernel
theorem dL_law_537 : decode cL_law 537 = .ok (.iconst 3, 1) := by decide +kernel
theorem dL_law_538 : decode cL_law 538 = .ok (.iadd, 1) := by decide +kernel
theorem dL_law_539 : decode cL_law 539 = .ok (.iaload, 1) := by decide +kernel
theorem dL_law_540 : decode cL_law 540 = .ok (.i2l, 1) := by decide +kernel
theorem dL_law_541 : decode cL_law 541 = .ok (.ldc2_w 64, 3) := by decide +kernel
theorem dL_law_544 : decode cL_law 544 = .ok (.land, 1) := by decide +kernel
theorem dL_law_545 : decode cL_law 545 = .ok (.lor, 1) := by decide +kernel
theorem dL_law_546 : decode cL_law 546 = .ok (.invokevirtual 77, 3) := by decide +kernel
theorem dL_law_549 : decode cL_law 549 = .ok (.istore 6, 2) := by decide +kernel
theorem dL_law_551 : decode cL_law 551 = .ok (.aload_n 2, 1) := by decide +kernel
theorem dL_law_552 : decode cL_law 552 = .ok (.invokevirtual 57, 3) := by decide +kernel
theorem dL_law_555 : decode cL_law 555 = .ok (.iload 5, 2) := by decide +kernel
theorem dL_law_557 : decode cL_law 557 = .ok (.if_icmp .eq 5, 3) := by decide +kernel
theorem dL_law_560 : decode cL_law 560 = .ok (.iconst 0, 1) := by decide +kernel
theorem dL_law_561 : decode cL_law 561 = .ok (.ireturn, 1) := by decide +kernel
theorem dL_law_562 : decode cL_law 562 = .ok (.iload 5, 2) := by decide +kernel
theorem dL_law_564 : decode cL_law 564 = .ok (.ifCond .ne 22, 3) := by decide +kernel
theorem dL_law_567 : decode cL_law 567 = .ok (.aload_n 3, 1) := by decide +kernel
theorem dL_law_568 : decode cL_law 568 = .ok (.iconst 0, 1) := by decide +kernel
theorem dL_law_569 : decode cL_law 569 = .ok (.laload, 1) := by decide +kernel
theorem dL_law_570 : decode cL_law 570 = .ok (.iload 6, 2) := by decide +kernel
theorem dL_law_572 : decode cL_law 572 = .ok (.ifCond .eq 7, 3) := by decide +kernel
theorem dL_law_575 : decode cL_law 575 = .ok (.lconst 1, 1) := by decide +kernel
theorem dL_law_576 : decode cL_law 576 = .ok (.goto 4, 3) := by decide +kernel
theorem dL_law_579 : decode cL_law 579 = .ok (.lconst 0, 1) := by decide +kernel
theorem dL_law_580 : decode cL_law 580 = .ok (.lcmp, 1) := by decide +kernel
theorem dL_law_581 : decode cL_law 581 = .ok (.ifCond .eq 5, 3) := by decide +kernel
theorem dL_law_584 : decode cL_law 584 = .ok (.iconst 0, 1) := by decide +kernel
theorem dL_law_585 : decode cL_law 585 = .ok (.ireturn, 1) := by decide +kernel
theorem dL_law_586 : decode cL_law 586 = .ok (.goto 150, 3) := by decide +kernel
theorem dL_law_589 : decode cL_law 589 = .ok (.aload_n 1, 1) := by decide +kernel
theorem dL_law_590 : decode cL_law 590 = .ok (.aload_n 3, 1) := by decide +kernel
theorem dL_law_591 : decode cL_law 591 = .ok (.invokestatic 78, 3) := by decide +kernel
theorem dL_law_594 : decode cL_law 594 = .ok (.istore 5, 2) := by decide +kernel
theorem dL_law_596 : decode cL_law 596 = .ok (.aload_n 2, 1) := by decide +kernel
theorem dL_law_597 : decode cL_law 597 = .ok (.invokevirtual 81, 3) := by decide +kernel
theorem dL_law_600 : decode cL_law 600 = .ok (.istore 6, 2) := by decide +kernel
theorem dL_law_602 : decode cL_law 602 = .ok (.aload_n 2, 1) := by decide +kernel
theorem dL_law_603 : decode cL_law 603 = .ok (.invokevirtual 57, 3) := by decide +kernel
theorem dL_law_606 : decode cL_law 606 = .ok (.iload 5, 2) := by decide +kernel
theorem dL_law_608 : decode cL_law 608 = .ok (.if_icmp .eq 5, 3) := by decide +kernel
theorem dL_law_611 : decode cL_law 611 = .ok (.iconst 0, 1) := by decide +kernel
theorem dL_law_612 : decode cL_law 612 = .ok (.ireturn, 1) := by decide +kernel
theorem dL_law_613 : decode cL_law 613 = .ok (.iload 5, 2) := by decide +kernel
theorem dL_law_615 : decode cL_law 615 = .ok (.ifCond .ne 22, 3) := by decide +kernel
theorem dL_law_618 : decode cL_law 618 = .ok (.aload_n 3, 1) := by decide +kernel
theorem dL_law_619 : decode cL_law 619 = .ok (.iconst 0, 1) := by decide +kernel
theorem dL_law_620 : decode cL_law 620 = .ok (.laload, 1) := by decide +kernel
theorem dL_law_621 : decode cL_law 621 = .ok (.iload 6, 2) := by decide +kernel
theorem dL_law_623 : decode cL_law 623 = .ok (.ifCond .eq 7, 3) := by decide +kernel
theorem dL_law_626 : decode cL_law 626 = .ok (.lconst 1, 1) := by decide +kernel
theorem dL_law_627 : decode cL_law 627 = .ok (.goto 4, 3) := by decide +kernel
theorem dL_law_630 : decode cL_law 630 = .ok (.lconst 0, 1) := by decide +kernel
theorem dL_law_631 : decode cL_law 631 = .ok (.lcmp, 1) := by decide +kernel
theorem dL_law_632 : decode cL_law 632 = .ok (.ifCond .eq 5, 3) := by decide +kernel
theorem dL_law_635 : decode cL_law 635 = .ok (.iconst 0, 1) := by decide +kernel
theorem dL_law_636 : decode cL_law 636 = .ok (.ireturn, 1) := by decide +kernel
theorem dL_law_637 : decode cL_law 637 = .ok (.goto 99, 3) := by decide +kernel
theorem dL_law_640 : decode cL_law 640 = .ok (.aload_n 1, 1) := by decide +kernel
theorem dL_law_641 : decode cL_law 641 = .ok (.aload_n 3, 1) := by decide +kernel
theorem dL_law_642 : decode cL_law 642 = .ok (.invokestatic 82, 3) := by decide +kernel
theorem dL_law_645 : decode cL_law 645 = .ok (.istore 5, 2) := by decide +kernel
theorem dL_law_647 : decode cL_law 647 = .ok (.aload_n 2, 1) := by decide +kernel
theorem dL_law_648 : decode cL_law 648 = .ok (.invokevirtual 84, 3) := by decide +kernel
theorem dL_law_651 : decode cL_law 651 = .ok (.istore 6, 2) := by decide +kernel
theorem dL_law_653 : decode cL_law 653 = .ok (.aload_n 2, 1) := by decide +kernel
theorem dL_law_654 : decode cL_law 654 = .ok (.invokevirtual 57, 3) := by decide +kernel
theorem dL_law_657 : decode cL_law 657 = .ok (.iload 5, 2) := by decide +kernel
theorem dL_law_659 : decode cL_law 659 = .ok (.if_icmp .eq 5, 3) := by decide +kernel
theorem dL_law_662 : decode cL_law 662 = .ok (.iconst 0, 1) := by decide +kernel
theorem dL_law_663 : decode cL_law 663 = .ok (.ireturn, 1) := by decide +kernel
theorem dL_law_664 : decode cL_law 664 = .ok (.iload 5, 2) := by decide +kernel
theorem dL_law_666 : decode cL_law 666 = .ok (.ifCond .ne 15, 3) := by decide +kernel
theorem dL_law_669 : decode cL_law 669 = .ok (.aload_n 3, 1) := by decide +kernel
theorem dL_law_670 : decode cL_law 670 = .ok (.iconst 0, 1) := by decide +kernel
theorem dL_law_671 : decode cL_law 671 = .ok (.laload, 1) := by decide +kernel
theorem dL_law_672 : decode cL_law 672 = .ok (.iload 6, 2) := by decide +kernel
theorem dL_law_674 : decode cL_law 674 = .ok (.i2l, 1) := by decide +kernel
theorem dL_law_675 : decode cL_law 675 = .ok (.lcmp, 1) := by decide +kernel
theorem dL_law_676 : decode cL_law 676 = .ok (.ifCond .eq 5, 3) := by decide +kernel
theorem dL_law_679 : decode cL_law 679 = .ok (.iconst 0, 1) := by decide +kernel
theorem dL_law_680 : decode cL_law 680 = .ok (.ireturn, 1) := by decide +kernel
theorem dL_law_681 : decode cL_law 681 = .ok (.goto 55, 3) := by decide +kernel
theorem dL_law_684 : decode cL_law 684 = .ok (.aload_n 1, 1) := by decide +kernel
theorem dL_law_685 : decode cL_law 685 = .ok (.invokevirtual 85, 3) := by decide +kernel
theorem dL_law_688 : decode cL_law 688 = .ok (.aload_n 2, 1) := by decide +kernel
theorem dL_law_689 : decode cL_law 689 = .ok (.invokevirtual 89, 3) := by decide +kernel
theorem dL_law_692 : decode cL_law 692 = .ok (.lcmp, 1) := by decide +kernel
theorem dL_law_693 : decode cL_law 693 = .ok (.ifCond .eq 43, 3) := by decide +kernel
theorem dL_law_696 : decode cL_law 696 = .ok (.iconst 0, 1) := by decide +kernel
theorem dL_law_697 : decode cL_law 697 = .ok (.ireturn, 1) := by decide +kernel
theorem dL_law_698 : decode cL_law 698 = .ok (.aload_n 1, 1) := by decide +kernel
theorem dL_law_699 : decode cL_law 699 = .ok (.invokevirtual 90, 3) := by decide +kernel
theorem dL_law_702 : decode cL_law 702 = .ok (.aload_n 2, 1) := by decide +kernel
theorem dL_law_703 : decode cL_law 703 = .ok (.invokevirtual 93, 3) := by decide +kernel
theorem dL_law_706 : decode cL_law 706 = .ok (.if_icmp .eq 30, 3) := by decide +kernel
theorem dL_law_709 : decode cL_law 709 = .ok (.iconst 0, 1) := by decide +kernel
theorem dL_law_710 : decode cL_law 710 = .ok (.ireturn, 1) := by decide +kernel
theorem dL_law_711 : decode cL_law 711 = .ok (.aload_n 1, 1) := by decide +kernel
theorem dL_law_712 : decode cL_law 712 = .ok (.aload_n 0, 1) := by decide +kernel
theorem dL_law_713 : decode cL_law 713 = .ok (.iload 4, 2) := by decide +kernel
theorem dL_law_715 : decode cL_law 715 = .ok (.iconst 1, 1) := by decide +kernel
theorem dL_law_716 : decode cL_law 716 = .ok (.iadd, 1) := by decide +kernel
theorem dL_law_717 : decode cL_law 717 = .ok (.iaload, 1) := by decide +kernel
theorem dL_law_718 : decode cL_law 718 = .ok (.invokevirtual 94, 3) := by decide +kernel
theorem dL_law_721 : decode cL_law 721 = .ok (.aload_n 2, 1) := by decide +kernel
theorem dL_law_722 : decode cL_law 722 = .ok (.aload_n 0, 1) := by decide +kernel
theorem dL_law_723 : decode cL_law 723 = .ok (.iload 4, 2) := by decide +kernel
theorem dL_law_725 : decode cL_law 725 = .ok (.iconst 1, 1) := by decide +kernel
theorem dL_law_726 : decode cL_law 726 = .ok (.iadd, 1) := by decide +kernel
theorem dL_law_727 : decode cL_law 727 = .ok (.iaload, 1) := by decide +kernel
theorem dL_law_728 : decode cL_law 728 = .ok (.invokevirtual 98, 3) := by decide +kernel
theorem dL_law_731 : decode cL_law 731 = .ok (.if_icmp .eq 5, 3) := by decide +kernel
theorem dL_law_734 : decode cL_law 734 = .ok (.iconst 0, 1) := by decide +kernel
theorem dL_law_735 : decode cL_law 735 = .ok (.ireturn, 1) := by decide +kernel
theorem dL_law_736 : decode cL_law 736 = .ok (.iinc 4 6, 3) := by decide +kernel
theorem dL_law_739 : decode cL_law 739 = .ok (.goto (-716), 3) := by decide +kernel
theorem dL_law_742 : decode cL_law 742 = .ok (.iconst 1, 1) := by decide +kernel
theorem dL_law_743 : decode cL_law 743 = .ok (.ireturn, 1) := by decide +kernel
theorem dJ6_bitCount_0 : decode cJ6_bitCount 0 = .ok (.iload_n 0, 1) := by decide +kernel
theorem dJ6_bitCount_1 : decode cJ6_bitCount 1 = .ok (.iload_n 0, 1) := by decide +kernel
theorem dJ6_bitCount_2 : decode cJ6_bitCount 2 = .ok (.iconst 1, 1) := by decide +kernel
theorem dJ6_bitCount_3 : decode cJ6_bitCount 3 = .ok (.iushr, 1) := by decide +kernel
theorem dJ6_bitCount_4 : decode cJ6_bitCount 4 = .ok (.ldc_w 265, 3) := by decide +kernel
theorem dJ6_bitCount_7 : decode cJ6_bitCount 7 = .ok (.iand, 1) := by decide +kernel
theorem dJ6_bitCount_8 : decode cJ6_bitCount 8 = .ok (.isub, 1) := by decide +kernel
theorem dJ6_bitCount_9 : decode cJ6_bitCount 9 = .ok (.istore_n 0, 1) := by decide +kernel
theorem dJ6_bitCount_10 : decode cJ6_bitCount 10 = .ok (.iload_n 0, 1) := by decide +kernel
theorem dJ6_bitCount_11 : decode cJ6_bitCount 11 = .ok (.ldc_w 266, 3) := by decide +kernel
theorem dJ6_bitCount_14 : decode cJ6_bitCount 14 = .ok (.iand, 1) := by decide +kernel
theorem dJ6_bitCount_15 : decode cJ6_bitCount 15 = .ok (.iload_n 0, 1) := by decide +kernel
theorem dJ6_bitCount_16 : decode cJ6_bitCount 16 = .ok (.iconst 2, 1) := by decide +kernel
theorem dJ6_bitCount_17 : decode cJ6_bitCount 17 = .ok (.iushr, 1) := by decide +kernel
theorem dJ6_bitCount_18 : decode cJ6_bitCount 18 = .ok (.ldc_w 266, 3) := by decide +kernel
theorem dJ6_bitCount_21 : decode cJ6_bitCount 21 = .ok (.iand, 1) := by decide +kernel
theorem dJ6_bitCount_22 : decode cJ6_bitCount 22 = .ok (.iadd, 1) := by decide +kernel
theorem dJ6_bitCount_23 : decode cJ6_bitCount 23 = .ok (.istore_n 0, 1) := by decide +kernel
theorem dJ6_bitCount_24 : decode cJ6_bitCount 24 = .ok (.iload_n 0, 1) := by decide +kernel
theorem dJ6_bitCount_25 : decode cJ6_bitCount 25 = .ok (.iload_n 0, 1) := by decide +kernel
theorem dJ6_bitCount_26 : decode cJ6_bitCount 26 = .ok (.iconst 4, 1) := by decide +kernel
theorem dJ6_bitCount_27 : decode cJ6_bitCount 27 = .ok (.iushr, 1) := by decide +kernel
theorem dJ6_bitCount_28 : decode cJ6_bitCount 28 = .ok (.iadd, 1) := by decide +kernel
theorem dJ6_bitCount_29 : decode cJ6_bitCount 29 = .ok (.ldc_w 267, 3) := by decide +kernel
theorem dJ6_bitCount_32 : decode cJ6_bitCount 32 = .ok (.iand, 1) := by decide +kernel
theorem dJ6_bitCount_33 : decode cJ6_bitCount 33 = .ok (.istore_n 0, 1) := by decide +kernel
theorem dJ6_bitCount_34 : decode cJ6_bitCount 34 = .ok (.iload_n 0, 1) := by decide +kernel
theorem dJ6_bitCount_35 : decode cJ6_bitCount 35 = .ok (.iload_n 0, 1) := by decide +kernel
theorem dJ6_bitCount_36 : decode cJ6_bitCount 36 = .ok (.bipush 8, 2) := by decide +kernel
theorem dJ6_bitCount_38 : decode cJ6_bitCount 38 = .ok (.iushr, 1) := by decide +kernel
theorem dJ6_bitCount_39 : decode cJ6_bitCount 39 = .ok (.iadd, 1) := by decide +kernel
theorem dJ6_bitCount_40 : decode cJ6_bitCount 40 = .ok (.istore_n 0, 1) := by decide +kernel
theorem dJ6_bitCount_41 : decode cJ6_bitCount 41 = .ok (.iload_n 0, 1) := by decide +kernel
theorem dJ6_bitCount_42 : decode cJ6_bitCount 42 = .ok (.iload_n 0, 1) := by decide +kernel
theorem dJ6_bitCount_43 : decode cJ6_bitCount 43 = .ok (.bipush 16, 2) := by decide +kernel
theorem dJ6_bitCount_45 : decode cJ6_bitCount 45 = .ok (.iushr, 1) := by decide +kernel
theorem dJ6_bitCount_46 : decode cJ6_bitCount 46 = .ok (.iadd, 1) := by decide +kernel
theorem dJ6_bitCount_47 : decode cJ6_bitCount 47 = .ok (.istore_n 0, 1) := by decide +kernel
theorem dJ6_bitCount_48 : decode cJ6_bitCount 48 = .ok (.iload_n 0, 1) := by decide +kernel
theorem dJ6_bitCount_49 : decode cJ6_bitCount 49 = .ok (.bipush 63, 2) := by decide +kernel
theorem dJ6_bitCount_51 : decode cJ6_bitCount 51 = .ok (.iand, 1) := by decide +kernel
theorem dJ6_bitCount_52 : decode cJ6_bitCount 52 = .ok (.ireturn, 1) := by decide +kernel
theorem dJ13_bitCount_0 : decode cJ13_bitCount 0 = .ok (.lload_n 0, 1) := by decide +kernel
theorem dJ13_bitCount_1 : decode cJ13_bitCount 1 = .ok (.lload_n 0, 1) := by decide +kernel
theorem dJ13_bitCount_2 : decode cJ13_bitCount 2 = .ok (.iconst 1, 1) := by decide +kernel
theorem dJ13_bitCount_3 : decode cJ13_bitCount 3 = .ok (.lushr, 1) := by decide +kernel
theorem dJ13_bitCount_4 : decode cJ13_bitCount 4 = .ok (.ldc2_w 314, 3) := by decide +kernel
theorem dJ13_bitCount_7 : decode cJ13_bitCount 7 = .ok (.land, 1) := by decide +kernel
theorem dJ13_bitCount_8 : decode cJ13_bitCount 8 = .ok (.lsub, 1) := by decide +kernel
theorem dJ13_bitCount_9 : decode cJ13_bitCount 9 = .ok (.lstore_n 0, 1) := by decide +kernel
theorem dJ13_bitCount_10 : decode cJ13_bitCount 10 = .ok (.lload_n 0, 1) := by decide +kernel
theorem dJ13_bitCount_11 : decode cJ13_bitCount 11 = .ok (.ldc2_w 316, 3) := by decide +kernel
theorem dJ13_bitCount_14 : decode cJ13_bitCount 14 = .ok (.land, 1) := by decide +kernel
theorem dJ13_bitCount_15 : decode cJ13_bitCount 15 = .ok (.lload_n 0, 1) := by decide +kernel
theorem dJ13_bitCount_16 : decode cJ13_bitCount 16 = .ok (.iconst 2, 1) := by decide +kernel
theorem dJ13_bitCount_17 : decode cJ13_bitCount 17 = .ok (.lushr, 1) := by decide +kernel
theorem dJ13_bitCount_18 : decode cJ13_bitCount 18 = .ok (.ldc2_w 316, 3) := by decide +kernel
theorem dJ13_bitCount_21 : decode cJ13_bitCount 21 = .ok (.land, 1) := by decide +kernel
theorem dJ13_bitCount_22 : decode cJ13_bitCount 22 = .ok (.ladd, 1) := by decide +kernel
theorem dJ13_bitCount_23 : decode cJ13_bitCount 23 = .ok (.lstore_n 0, 1) := by decide +kernel
theorem dJ13_bitCount_24 : decode cJ13_bitCount 24 = .ok (.lload_n 0, 1) := by decide +kernel
theorem dJ13_bitCount_25 : decode cJ13_bitCount 25 = .ok (.lload_n 0, 1) := by decide +kernel
theorem dJ13_bitCount_26 : decode cJ13_bitCount 26 = .ok (.iconst 4, 1) := by decide +kernel
theorem dJ13_bitCount_27 : decode cJ13_bitCount 27 = .ok (.lushr, 1) := by decide +kernel
theorem dJ13_bitCount_28 : decode cJ13_bitCount 28 = .ok (.ladd, 1) := by decide +kernel
theorem dJ13_bitCount_29 : decode cJ13_bitCount 29 = .ok (.ldc2_w 318, 3) := by decide +kernel
theorem dJ13_bitCount_32 : decode cJ13_bitCount 32 = .ok (.land, 1) := by decide +kernel
theorem dJ13_bitCount_33 : decode cJ13_bitCount 33 = .ok (.lstore_n 0, 1) := by decide +kernel
theorem dJ13_bitCount_34 : decode cJ13_bitCount 34 = .ok (.lload_n 0, 1) := by decide +kernel
theorem dJ13_bitCount_35 : decode cJ13_bitCount 35 = .ok (.lload_n 0, 1) := by decide +kernel
theorem dJ13_bitCount_36 : decode cJ13_bitCount 36 = .ok (.bipush 8, 2) := by decide +kernel
theorem dJ13_bitCount_38 : decode cJ13_bitCount 38 = .ok (.lushr, 1) := by decide +kernel
theorem dJ13_bitCount_39 : decode cJ13_bitCount 39 = .ok (.ladd, 1) := by decide +kernel
theorem dJ13_bitCount_40 : decode cJ13_bitCount 40 = .ok (.lstore_n 0, 1) := by decide +kernel
theorem dJ13_bitCount_41 : decode cJ13_bitCount 41 = .ok (.lload_n 0, 1) := by decide +kernel
theorem dJ13_bitCount_42 : decode cJ13_bitCount 42 = .ok (.lload_n 0, 1) := by decide +kernel
theorem dJ13_bitCount_43 : decode cJ13_bitCount 43 = .ok (.bipush 16, 2) := by decide +kernel
theorem dJ13_bitCount_45 : decode cJ13_bitCount 45 = .ok (.lushr, 1) := by decide +kernel
theorem dJ13_bitCount_46 : decode cJ13_bitCount 46 = .ok (.ladd, 1) := by decide +kernel
theorem dJ13_bitCount_47 : decode cJ13_bitCount 47 = .ok (.lstore_n 0, 1) := by decide +kernel
theorem dJ13_bitCount_48 : decode cJ13_bitCount 48 = .ok (.lload_n 0, 1) := by decide +kernel
theorem dJ13_bitCount_49 : decode cJ13_bitCount 49 = .ok (.lload_n 0, 1) := by decide +kernel
theorem dJ13_bitCount_50 : decode cJ13_bitCount 50 = .ok (.bipush 32, 2) := by decide +kernel
theorem dJ13_bitCount_52 : decode cJ13_bitCount 52 = .ok (.lushr, 1) := by decide +kernel
theorem dJ13_bitCount_53 : decode cJ13_bitCount 53 = .ok (.ladd, 1) := by decide +kernel
theorem dJ13_bitCount_54 : decode cJ13_bitCount 54 = .ok (.lstore_n 0, 1) := by decide +kernel
theorem dJ13_bitCount_55 : decode cJ13_bitCount 55 = .ok (.lload_n 0, 1) := by decide +kernel
theorem dJ13_bitCount_56 : decode cJ13_bitCount 56 = .ok (.l2i, 1) := by decide +kernel
theorem dJ13_bitCount_57 : decode cJ13_bitCount 57 = .ok (.bipush 127, 2) := by decide +kernel
theorem dJ13_bitCount_59 : decode cJ13_bitCount 59 = .ok (.iand, 1) := by decide +kernel
theorem dJ13_bitCount_60 : decode cJ13_bitCount 60 = .ok (.ireturn, 1) := by decide +kernel
theorem dJ7_fillI_0 : decode cJ7_fillI 0 = .ok (.iconst 0, 1) := by decide +kernel
theorem dJ7_fillI_1 : decode cJ7_fillI 1 = .ok (.istore_n 2, 1) := by decide +kernel
theorem dJ7_fillI_2 : decode cJ7_fillI 2 = .ok (.aload_n 0, 1) := by decide +kernel
theorem dJ7_fillI_3 : decode cJ7_fillI 3 = .ok (.arraylength, 1) := by decide +kernel
theorem dJ7_fillI_4 : decode cJ7_fillI 4 = .ok (.istore_n 3, 1) := by decide +kernel
theorem dJ7_fillI_5 : decode cJ7_fillI 5 = .ok (.iload_n 2, 1) := by decide +kernel
theorem dJ7_fillI_6 : decode cJ7_fillI 6 = .ok (.iload_n 3, 1) := by decide +kernel
theorem dJ7_fillI_7 : decode cJ7_fillI 7 = .ok (.if_icmp .ge 13, 3) := by decide +kernel
theorem dJ7_fillI_10 : decode cJ7_fillI 10 = .ok (.aload_n 0, 1) := by decide +kernel
theorem dJ7_fillI_11 : decode cJ7_fillI 11 = .ok (.iload_n 2, 1) := by decide +kernel
theorem dJ7_fillI_12 : decode cJ7_fillI 12 = .ok (.iload_n 1, 1) := by decide +kernel
theorem dJ7_fillI_13 : decode cJ7_fillI 13 = .ok (.iastore, 1) := by decide +kernel
theorem dJ7_fillI_14 : decode cJ7_fillI 14 = .ok (.iinc 2 1, 3) := by decide +kernel
theorem dJ7_fillI_17 : decode cJ7_fillI 17 = .ok (.goto (-12), 3) := by decide +kernel
theorem dJ7_fillI_20 : decode cJ7_fillI 20 = .ok (.return_, 1) := by decide +kernel
theorem dJ7_fillL_0 : decode cJ7_fillL 0 = .ok (.iconst 0, 1) := by decide +kernel
theorem dJ7_fillL_1 : decode cJ7_fillL 1 = .ok (.istore_n 3, 1) := by decide +kernel
theorem dJ7_fillL_2 : decode cJ7_fillL 2 = .ok (.aload_n 0, 1) := by decide +kernel
theorem dJ7_fillL_3 : decode cJ7_fillL 3 = .ok (.arraylength, 1) := by decide +kernel
theorem dJ7_fillL_4 : decode cJ7_fillL 4 = .ok (.istore 4, 2) := by decide +kernel
theorem dJ7_fillL_6 : decode cJ7_fillL 6 = .ok (.iload_n 3, 1) := by decide +kernel
theorem dJ7_fillL_7 : decode cJ7_fillL 7 = .ok (.iload 4, 2) := by decide +kernel
theorem dJ7_fillL_9 : decode cJ7_fillL 9 = .ok (.if_icmp .ge 13, 3) := by decide +kernel
theorem dJ7_fillL_12 : decode cJ7_fillL 12 = .ok (.aload_n 0, 1) := by decide +kernel
theorem dJ7_fillL_13 : decode cJ7_fillL 13 = .ok (.iload_n 3, 1) := by decide +kernel
theorem dJ7_fillL_14 : decode cJ7_fillL 14 = .ok (.lload_n 1, 1) := by decide +kernel
theorem dJ7_fillL_15 : decode cJ7_fillL 15 = .ok (.lastore, 1) := by decide +kernel
theorem dJ7_fillL_16 : decode cJ7_fillL 16 = .ok (.iinc 3 1, 3) := by decide +kernel
theorem dJ7_fillL_19 : decode cJ7_fillL 19 = .ok (.goto (-13), 3) := by decide +kernel
theorem dJ7_fillL_22 : decode cJ7_fillL 22 = .ok (.return_, 1) := by decide +kernel
