/-! ===== 11: a row for each step (written by a program) ===== -/
theorem zr_186_0 : zSnd 186 0 (o_aload 3 1) := zS_aload_n (i := 3) (by decide +kernel) rfl rfl
theorem zr_186_1 : zSnd 186 1 (o_const 1 2) := zS_iconst (by decide +kernel) rfl (by decide)
theorem zr_186_2 : zSnd 186 2 (o_iald 3) := zS_iald (by decide +kernel) rfl
theorem zr_186_3 : zSnd 186 3 (o_istore 8 5) := zS_istore (by decide +kernel) rfl (by decide +kernel)
theorem zr_186_5 : zSnd 186 5 (o_const (-1) 6) := zS_iconst (by decide +kernel) rfl (by decide)
theorem zr_186_6 : zSnd 186 6 (o_istore 9 8) := zS_istore (by decide +kernel) rfl (by decide +kernel)
theorem zr_186_8 : zSnd 186 8 (o_const 0 9) := zS_iconst (by decide +kernel) rfl (by decide)
theorem zr_186_9 : zSnd 186 9 (o_istore 10 11) := zS_istore (by decide +kernel) rfl (by decide +kernel)
theorem zr_186_11 : zSnd 186 11 (o_aload 5 13) := zS_aload (by decide +kernel) rfl
theorem zr_186_13 : zSnd 186 13 (o_aload 7 15) := zS_aload (by decide +kernel) rfl
theorem zr_186_15 : zSnd 186 15 (o_call 184 2 3 0 18) := zS_callS (idx := 75) (by decide +kernel) rfl zq_247 zq_248 (by decide +kernel) zMk_184 (by decide +kernel) (by decide +kernel) (by decide +kernel)
theorem zr_186_18 : zSnd 186 18 (o_const 0 19) := zS_iconst (by decide +kernel) rfl (by decide)
theorem zr_186_19 : zSnd 186 19 (o_istore 11 21) := zS_istore (by decide +kernel) rfl (by decide +kernel)
theorem zr_186_21 : zSnd 186 21 (o_iload 11 23) := zS_iload (by decide +kernel) rfl
theorem zr_186_23 : zSnd 186 23 (o_const 4 24) := zS_iconst (by decide +kernel) rfl (by decide)
theorem zr_186_24 : zSnd 186 24 (o_cge 105 27) := zS_cge (by decide +kernel : decode (zmB 186) 24 = .ok (.if_icmp .ge 81, 3)) rfl (by decide)
theorem zr_186_27 : zSnd 186 27 (o_iload 11 29) := zS_iload (by decide +kernel) rfl
theorem zr_186_29 : zSnd 186 29 (o_aload 3 30) := zS_aload_n (i := 3) (by decide +kernel) rfl rfl
theorem zr_186_30 : zSnd 186 30 (o_aload 4 32) := zS_aload (by decide +kernel) rfl
theorem zr_186_32 : zSnd 186 32 (o_aload 5 34) := zS_aload (by decide +kernel) rfl
theorem zr_186_34 : zSnd 186 34 (o_aload 6 36) := zS_aload (by decide +kernel) rfl
theorem zr_186_36 : zSnd 186 36 (o_call 181 5 6 0 39) := zS_callS (idx := 79) (by decide +kernel) rfl zq_249 zq_250 (by decide +kernel) zMk_181 (by decide +kernel) (by decide +kernel) (by decide +kernel)
theorem zr_186_39 : zSnd 186 39 (o_const 3 40) := zS_iconst (by decide +kernel) rfl (by decide)
theorem zr_186_40 : zSnd 186 40 (o_aload 4 42) := zS_aload (by decide +kernel) rfl
theorem zr_186_42 : zSnd 186 42 (o_aload 5 44) := zS_aload (by decide +kernel) rfl
theorem zr_186_44 : zSnd 186 44 (o_call 180 3 7 1 47) := zS_callS (idx := 72) (by decide +kernel) rfl zq_245 zq_246 (by decide +kernel) zMk_180 (by decide +kernel) (by decide +kernel) (by decide +kernel)
theorem zr_186_47 : zSnd 186 47 (o_istore 12 49) := zS_istore (by decide +kernel) rfl (by decide +kernel)
theorem zr_186_49 : zSnd 186 49 (o_aload 0 50) := zS_aload_n (i := 0) (by decide +kernel) rfl rfl
theorem zr_186_50 : zSnd 186 50 (o_iload 11 52) := zS_iload (by decide +kernel) rfl
theorem zr_186_52 : zSnd 186 52 (o_callv 5 17 2 2 1 55) := zS_callV (n := 1) (idx := 83) (by decide +kernel) rfl rfl (by decide) rfl zq_251 zq_252 zq_253 (by decide +kernel) zMk_17 (by decide +kernel) (by decide +kernel) (by decide +kernel)
theorem zr_186_55 : zSnd 186 55 (o_iload 12 57) := zS_iload (by decide +kernel) rfl
theorem zr_186_57 : zSnd 186 57 (o_ceq 62 60) := zS_ceq (by decide +kernel : decode (zmB 186) 57 = .ok (.if_icmp .eq 5, 3)) rfl (by decide)
theorem zr_186_60 : zSnd 186 60 (o_const 0 61) := zS_iconst (by decide +kernel) rfl (by decide)
theorem zr_186_61 : zSnd 186 61 (o_zret) := zS_zret (by decide +kernel) (by decide +kernel)
theorem zr_186_62 : zSnd 186 62 (o_iload 9 64) := zS_iload (by decide +kernel) rfl
theorem zr_186_64 : zSnd 186 64 (o_iflt 74 67) := zS_iflt (by decide +kernel : decode (zmB 186) 64 = .ok (.ifCond .lt 10, 3)) rfl (by decide)
theorem zr_186_67 : zSnd 186 67 (o_iload 12 69) := zS_iload (by decide +kernel) rfl
theorem zr_186_69 : zSnd 186 69 (o_iload 10 71) := zS_iload (by decide +kernel) rfl
theorem zr_186_71 : zSnd 186 71 (o_cge 79 74) := zS_cge (by decide +kernel : decode (zmB 186) 71 = .ok (.if_icmp .ge 8, 3)) rfl (by decide)
theorem zr_186_74 : zSnd 186 74 (o_iload 11 76) := zS_iload (by decide +kernel) rfl
theorem zr_186_76 : zSnd 186 76 (o_goto 81) := zS_goto (by decide +kernel : decode (zmB 186) 76 = .ok (.goto 5, 3)) (by decide)
theorem zr_186_79 : zSnd 186 79 (o_iload 9 81) := zS_iload (by decide +kernel) rfl
theorem zr_186_81 : zSnd 186 81 (o_istore 9 83) := zS_istore (by decide +kernel) rfl (by decide +kernel)
theorem zr_186_83 : zSnd 186 83 (o_iload 9 85) := zS_iload (by decide +kernel) rfl
theorem zr_186_85 : zSnd 186 85 (o_iload 11 87) := zS_iload (by decide +kernel) rfl
theorem zr_186_87 : zSnd 186 87 (o_cne 95 90) := zS_cne (by decide +kernel : decode (zmB 186) 87 = .ok (.if_icmp .ne 8, 3)) rfl (by decide)
theorem zr_186_90 : zSnd 186 90 (o_iload 12 92) := zS_iload (by decide +kernel) rfl
theorem zr_186_92 : zSnd 186 92 (o_goto 97) := zS_goto (by decide +kernel : decode (zmB 186) 92 = .ok (.goto 5, 3)) (by decide)
theorem zr_186_95 : zSnd 186 95 (o_iload 10 97) := zS_iload (by decide +kernel) rfl
theorem zr_186_97 : zSnd 186 97 (o_istore 10 99) := zS_istore (by decide +kernel) rfl (by decide +kernel)
theorem zr_186_99 : zSnd 186 99 (o_iinc 11 1 102) := zS_iinc (by decide +kernel) rfl (by decide +kernel)
theorem zr_186_102 : zSnd 186 102 (o_goto 21) := zS_goto (by decide +kernel : decode (zmB 186) 102 = .ok (.goto (-81), 3)) (by decide)
theorem zr_186_105 : zSnd 186 105 (o_aload 0 106) := zS_aload_n (i := 0) (by decide +kernel) rfl rfl
theorem zr_186_106 : zSnd 186 106 (o_callv 5 18 1 5 1 109) := zS_callV (n := 0) (idx := 86) (by decide +kernel) rfl rfl (by decide) rfl zq_254 zq_255 zq_256 (by decide +kernel) zMk_18 (by decide +kernel) (by decide +kernel) (by decide +kernel)
theorem zr_186_109 : zSnd 186 109 (o_iload 9 111) := zS_iload (by decide +kernel) rfl
theorem zr_186_111 : zSnd 186 111 (o_ceq 116 114) := zS_ceq (by decide +kernel : decode (zmB 186) 111 = .ok (.if_icmp .eq 5, 3)) rfl (by decide)
theorem zr_186_114 : zSnd 186 114 (o_const 0 115) := zS_iconst (by decide +kernel) rfl (by decide)
theorem zr_186_115 : zSnd 186 115 (o_zret) := zS_zret (by decide +kernel) (by decide +kernel)
theorem zr_186_116 : zSnd 186 116 (o_iload 2 117) := zS_iload_n (i := 2) (by decide +kernel) rfl rfl
theorem zr_186_117 : zSnd 186 117 (o_aload 3 118) := zS_aload_n (i := 3) (by decide +kernel) rfl rfl
theorem zr_186_118 : zSnd 186 118 (o_aload 4 120) := zS_aload (by decide +kernel) rfl
theorem zr_186_120 : zSnd 186 120 (o_aload 5 122) := zS_aload (by decide +kernel) rfl
theorem zr_186_122 : zSnd 186 122 (o_aload 6 124) := zS_aload (by decide +kernel) rfl
theorem zr_186_124 : zSnd 186 124 (o_call 181 5 6 0 127) := zS_callS (idx := 79) (by decide +kernel) rfl zq_249 zq_250 (by decide +kernel) zMk_181 (by decide +kernel) (by decide +kernel) (by decide +kernel)
theorem zr_186_127 : zSnd 186 127 (o_const 3 128) := zS_iconst (by decide +kernel) rfl (by decide)
theorem zr_186_128 : zSnd 186 128 (o_aload 4 130) := zS_aload (by decide +kernel) rfl
theorem zr_186_130 : zSnd 186 130 (o_aload 5 132) := zS_aload (by decide +kernel) rfl
theorem zr_186_132 : zSnd 186 132 (o_call 180 3 7 1 135) := zS_callS (idx := 72) (by decide +kernel) rfl zq_245 zq_246 (by decide +kernel) zMk_180 (by decide +kernel) (by decide +kernel) (by decide +kernel)
theorem zr_186_135 : zSnd 186 135 (o_istore 11 137) := zS_istore (by decide +kernel) rfl (by decide +kernel)
theorem zr_186_137 : zSnd 186 137 (o_const (-1) 138) := zS_iconst (by decide +kernel) rfl (by decide)
theorem zr_186_138 : zSnd 186 138 (o_istore 12 140) := zS_istore (by decide +kernel) rfl (by decide +kernel)
theorem zr_186_140 : zSnd 186 140 (o_const 0 141) := zS_iconst (by decide +kernel) rfl (by decide)
theorem zr_186_141 : zSnd 186 141 (o_istore 13 143) := zS_istore (by decide +kernel) rfl (by decide +kernel)
theorem zr_186_143 : zSnd 186 143 (o_iload 13 145) := zS_iload (by decide +kernel) rfl
theorem zr_186_145 : zSnd 186 145 (o_const 12 147) := zS_bipush (by decide +kernel) rfl (by decide) (by decide)
theorem zr_186_147 : zSnd 186 147 (o_cge 271 150) := zS_cge (by decide +kernel : decode (zmB 186) 147 = .ok (.if_icmp .ge 124, 3)) rfl (by decide)
theorem zr_186_150 : zSnd 186 150 (o_iload 13 152) := zS_iload (by decide +kernel) rfl
theorem zr_186_152 : zSnd 186 152 (o_aload 4 154) := zS_aload (by decide +kernel) rfl
theorem zr_186_154 : zSnd 186 154 (o_call 172 2 2 1 157) := zS_callS (idx := 20) (by decide +kernel) rfl zq_210 zq_211 (by decide +kernel) zMk_172 (by decide +kernel) (by decide +kernel) (by decide +kernel)
theorem zr_186_157 : zSnd 186 157 (o_ifeq 265 160) := zS_ifeq (by decide +kernel : decode (zmB 186) 157 = .ok (.ifCond .eq 108, 3)) rfl (by decide)
theorem zr_186_160 : zSnd 186 160 (o_aload 5 162) := zS_aload (by decide +kernel) rfl
theorem zr_186_162 : zSnd 186 162 (o_const 4 163) := zS_iconst (by decide +kernel) rfl (by decide)
theorem zr_186_163 : zSnd 186 163 (o_iload 13 165) := zS_iload (by decide +kernel) rfl
theorem zr_186_165 : zSnd 186 165 (o_imul 166) := zS_imul (by decide +kernel) rfl
theorem zr_186_166 : zSnd 186 166 (o_const 1 167) := zS_iconst (by decide +kernel) rfl (by decide)
theorem zr_186_167 : zSnd 186 167 (o_iadd 168) := zS_iadd (by decide +kernel) rfl
theorem zr_186_168 : zSnd 186 168 (o_iald 169) := zS_iald (by decide +kernel) rfl
theorem zr_186_169 : zSnd 186 169 (o_const 1 170) := zS_iconst (by decide +kernel) rfl (by decide)
theorem zr_186_170 : zSnd 186 170 (o_cne 176 173) := zS_cne (by decide +kernel : decode (zmB 186) 170 = .ok (.if_icmp .ne 6, 3)) rfl (by decide)
theorem zr_186_173 : zSnd 186 173 (o_goto 265) := zS_goto (by decide +kernel : decode (zmB 186) 173 = .ok (.goto 92, 3)) (by decide)
theorem zr_186_176 : zSnd 186 176 (o_aload 5 178) := zS_aload (by decide +kernel) rfl
theorem zr_186_178 : zSnd 186 178 (o_const 4 179) := zS_iconst (by decide +kernel) rfl (by decide)
theorem zr_186_179 : zSnd 186 179 (o_iload 13 181) := zS_iload (by decide +kernel) rfl
theorem zr_186_181 : zSnd 186 181 (o_imul 182) := zS_imul (by decide +kernel) rfl
theorem zr_186_182 : zSnd 186 182 (o_const 1 183) := zS_iconst (by decide +kernel) rfl (by decide)
theorem zr_186_183 : zSnd 186 183 (o_iadd 184) := zS_iadd (by decide +kernel) rfl
theorem zr_186_184 : zSnd 186 184 (o_dup2 185) := zS_dup2 (by decide +kernel) rfl
theorem zr_186_185 : zSnd 186 185 (o_iald 186) := zS_iald (by decide +kernel) rfl
theorem zr_186_186 : zSnd 186 186 (o_const 1 187) := zS_iconst (by decide +kernel) rfl (by decide)
theorem zr_186_187 : zSnd 186 187 (o_isub 188) := zS_isub (by decide +kernel) rfl
theorem zr_186_188 : zSnd 186 188 (o_iast 189) := zS_iast (by decide +kernel) rfl
theorem zr_186_189 : zSnd 186 189 (o_iload 2 190) := zS_iload_n (i := 2) (by decide +kernel) rfl rfl
theorem zr_186_190 : zSnd 186 190 (o_aload 3 191) := zS_aload_n (i := 3) (by decide +kernel) rfl rfl
theorem zr_186_191 : zSnd 186 191 (o_aload 4 193) := zS_aload (by decide +kernel) rfl
theorem zr_186_193 : zSnd 186 193 (o_aload 5 195) := zS_aload (by decide +kernel) rfl
theorem zr_186_195 : zSnd 186 195 (o_aload 6 197) := zS_aload (by decide +kernel) rfl
theorem zr_186_197 : zSnd 186 197 (o_call 181 5 6 0 200) := zS_callS (idx := 79) (by decide +kernel) rfl zq_249 zq_250 (by decide +kernel) zMk_181 (by decide +kernel) (by decide +kernel) (by decide +kernel)
theorem zr_186_200 : zSnd 186 200 (o_const 3 201) := zS_iconst (by decide +kernel) rfl (by decide)
theorem zr_186_201 : zSnd 186 201 (o_aload 4 203) := zS_aload (by decide +kernel) rfl
theorem zr_186_203 : zSnd 186 203 (o_aload 5 205) := zS_aload (by decide +kernel) rfl
theorem zr_186_205 : zSnd 186 205 (o_call 180 3 7 1 208) := zS_callS (idx := 72) (by decide +kernel) rfl zq_245 zq_246 (by decide +kernel) zMk_180 (by decide +kernel) (by decide +kernel) (by decide +kernel)
theorem zr_186_208 : zSnd 186 208 (o_istore 14 210) := zS_istore (by decide +kernel) rfl (by decide +kernel)
theorem zr_186_210 : zSnd 186 210 (o_aload 5 212) := zS_aload (by decide +kernel) rfl
theorem zr_186_212 : zSnd 186 212 (o_const 4 213) := zS_iconst (by decide +kernel) rfl (by decide)
theorem zr_186_213 : zSnd 186 213 (o_iload 13 215) := zS_iload (by decide +kernel) rfl
theorem zr_186_215 : zSnd 186 215 (o_imul 216) := zS_imul (by decide +kernel) rfl
theorem zr_186_216 : zSnd 186 216 (o_const 1 217) := zS_iconst (by decide +kernel) rfl (by decide)
theorem zr_186_217 : zSnd 186 217 (o_iadd 218) := zS_iadd (by decide +kernel) rfl
theorem zr_186_218 : zSnd 186 218 (o_dup2 219) := zS_dup2 (by decide +kernel) rfl
theorem zr_186_219 : zSnd 186 219 (o_iald 220) := zS_iald (by decide +kernel) rfl
theorem zr_186_220 : zSnd 186 220 (o_const 1 221) := zS_iconst (by decide +kernel) rfl (by decide)
theorem zr_186_221 : zSnd 186 221 (o_iadd 222) := zS_iadd (by decide +kernel) rfl
theorem zr_186_222 : zSnd 186 222 (o_iast 223) := zS_iast (by decide +kernel) rfl
theorem zr_186_223 : zSnd 186 223 (o_iload 14 225) := zS_iload (by decide +kernel) rfl
theorem zr_186_225 : zSnd 186 225 (o_iload 11 227) := zS_iload (by decide +kernel) rfl
theorem zr_186_227 : zSnd 186 227 (o_cge 245 230) := zS_cge (by decide +kernel : decode (zmB 186) 227 = .ok (.if_icmp .ge 18, 3)) rfl (by decide)
theorem zr_186_230 : zSnd 186 230 (o_const 10 232) := zS_bipush (by decide +kernel) rfl (by decide) (by decide)
theorem zr_186_232 : zSnd 186 232 (o_iload 13 234) := zS_iload (by decide +kernel) rfl
theorem zr_186_234 : zSnd 186 234 (o_const 4 235) := zS_iconst (by decide +kernel) rfl (by decide)
theorem zr_186_235 : zSnd 186 235 (o_idiv 236) := zS_idiv (by decide +kernel) rfl
theorem zr_186_236 : zSnd 186 236 (o_imul 237) := zS_imul (by decide +kernel) rfl
theorem zr_186_237 : zSnd 186 237 (o_iload 13 239) := zS_iload (by decide +kernel) rfl
theorem zr_186_239 : zSnd 186 239 (o_const 4 240) := zS_iconst (by decide +kernel) rfl (by decide)
theorem zr_186_240 : zSnd 186 240 (o_irem 241) := zS_irem (by decide +kernel) rfl
theorem zr_186_241 : zSnd 186 241 (o_iadd 242) := zS_iadd (by decide +kernel) rfl
theorem zr_186_242 : zSnd 186 242 (o_goto 247) := zS_goto (by decide +kernel : decode (zmB 186) 242 = .ok (.goto 5, 3)) (by decide)
theorem zr_186_245 : zSnd 186 245 (o_iload 12 247) := zS_iload (by decide +kernel) rfl
theorem zr_186_247 : zSnd 186 247 (o_istore 12 249) := zS_istore (by decide +kernel) rfl (by decide +kernel)
theorem zr_186_249 : zSnd 186 249 (o_iload 14 251) := zS_iload (by decide +kernel) rfl
theorem zr_186_251 : zSnd 186 251 (o_iload 11 253) := zS_iload (by decide +kernel) rfl
theorem zr_186_253 : zSnd 186 253 (o_cge 261 256) := zS_cge (by decide +kernel : decode (zmB 186) 253 = .ok (.if_icmp .ge 8, 3)) rfl (by decide)
theorem zr_186_256 : zSnd 186 256 (o_iload 14 258) := zS_iload (by decide +kernel) rfl
theorem zr_186_258 : zSnd 186 258 (o_goto 263) := zS_goto (by decide +kernel : decode (zmB 186) 258 = .ok (.goto 5, 3)) (by decide)
theorem zr_186_261 : zSnd 186 261 (o_iload 11 263) := zS_iload (by decide +kernel) rfl
theorem zr_186_263 : zSnd 186 263 (o_istore 11 265) := zS_istore (by decide +kernel) rfl (by decide +kernel)
theorem zr_186_265 : zSnd 186 265 (o_iinc 13 1 268) := zS_iinc (by decide +kernel) rfl (by decide +kernel)
theorem zr_186_268 : zSnd 186 268 (o_goto 143) := zS_goto (by decide +kernel : decode (zmB 186) 268 = .ok (.goto (-125), 3)) (by decide)
theorem zr_186_271 : zSnd 186 271 (o_aload 0 272) := zS_aload_n (i := 0) (by decide +kernel) rfl rfl
theorem zr_186_272 : zSnd 186 272 (o_iload 2 273) := zS_iload_n (i := 2) (by decide +kernel) rfl rfl
theorem zr_186_273 : zSnd 186 273 (o_callv 5 21 2 7 1 276) := zS_callV (n := 1) (idx := 89) (by decide +kernel) rfl rfl (by decide) rfl zq_257 zq_258 zq_259 (by decide +kernel) zMk_21 (by decide +kernel) (by decide +kernel) (by decide +kernel)
theorem zr_186_276 : zSnd 186 276 (o_iload 12 278) := zS_iload (by decide +kernel) rfl
theorem zr_186_278 : zSnd 186 278 (o_ceq 283 281) := zS_ceq (by decide +kernel : decode (zmB 186) 278 = .ok (.if_icmp .eq 5, 3)) rfl (by decide)
theorem zr_186_281 : zSnd 186 281 (o_const 0 282) := zS_iconst (by decide +kernel) rfl (by decide)
theorem zr_186_282 : zSnd 186 282 (o_zret) := zS_zret (by decide +kernel) (by decide +kernel)
theorem zr_186_283 : zSnd 186 283 (o_aload 7 285) := zS_aload (by decide +kernel) rfl
theorem zr_186_285 : zSnd 186 285 (o_aload 5 287) := zS_aload (by decide +kernel) rfl
theorem zr_186_287 : zSnd 186 287 (o_call 184 2 3 0 290) := zS_callS (idx := 75) (by decide +kernel) rfl zq_247 zq_248 (by decide +kernel) zMk_184 (by decide +kernel) (by decide +kernel) (by decide +kernel)
theorem zr_186_290 : zSnd 186 290 (o_aload 3 291) := zS_aload_n (i := 3) (by decide +kernel) rfl rfl
theorem zr_186_291 : zSnd 186 291 (o_const 1 292) := zS_iconst (by decide +kernel) rfl (by decide)
theorem zr_186_292 : zSnd 186 292 (o_iload 8 294) := zS_iload (by decide +kernel) rfl
theorem zr_186_294 : zSnd 186 294 (o_iast 295) := zS_iast (by decide +kernel) rfl
theorem zr_186_295 : zSnd 186 295 (o_iload 8 297) := zS_iload (by decide +kernel) rfl
theorem zr_186_297 : zSnd 186 297 (o_ifne 315 300) := zS_ifne (by decide +kernel : decode (zmB 186) 297 = .ok (.ifCond .ne 18, 3)) rfl (by decide)
theorem zr_186_300 : zSnd 186 300 (o_aload 0 301) := zS_aload_n (i := 0) (by decide +kernel) rfl rfl
theorem zr_186_301 : zSnd 186 301 (o_iload 1 302) := zS_iload_n (i := 1) (by decide +kernel) rfl rfl
theorem zr_186_302 : zSnd 186 302 (o_callv 5 20 2 6 1 305) := zS_callV (n := 1) (idx := 92) (by decide +kernel) rfl rfl (by decide) rfl zq_260 zq_261 zq_262 (by decide +kernel) zMk_20 (by decide +kernel) (by decide +kernel) (by decide +kernel)
theorem zr_186_305 : zSnd 186 305 (o_const (-1) 306) := zS_iconst (by decide +kernel) rfl (by decide)
theorem zr_186_306 : zSnd 186 306 (o_cne 313 309) := zS_cne (by decide +kernel : decode (zmB 186) 306 = .ok (.if_icmp .ne 7, 3)) rfl (by decide)
theorem zr_186_309 : zSnd 186 309 (o_const 1 310) := zS_iconst (by decide +kernel) rfl (by decide)
theorem zr_186_310 : zSnd 186 310 (o_goto 314) := zS_goto (by decide +kernel : decode (zmB 186) 310 = .ok (.goto 4, 3)) (by decide)
theorem zr_186_313 : zSnd 186 313 (o_const 0 314) := zS_iconst (by decide +kernel) rfl (by decide)
theorem zr_186_314 : zSnd 186 314 (o_zret) := zS_zret (by decide +kernel) (by decide +kernel)
theorem zr_186_315 : zSnd 186 315 (o_aload 3 316) := zS_aload_n (i := 3) (by decide +kernel) rfl rfl
theorem zr_186_316 : zSnd 186 316 (o_aload 4 318) := zS_aload (by decide +kernel) rfl
theorem zr_186_318 : zSnd 186 318 (o_aload 5 320) := zS_aload (by decide +kernel) rfl
theorem zr_186_320 : zSnd 186 320 (o_aload 6 322) := zS_aload (by decide +kernel) rfl
theorem zr_186_322 : zSnd 186 322 (o_call 182 4 9 0 325) := zS_callS (idx := 95) (by decide +kernel) rfl zq_263 zq_264 (by decide +kernel) zMk_182 (by decide +kernel) (by decide +kernel) (by decide +kernel)
theorem zr_186_325 : zSnd 186 325 (o_aload 0 326) := zS_aload_n (i := 0) (by decide +kernel) rfl rfl
theorem zr_186_326 : zSnd 186 326 (o_callv 5 19 1 1 1 329) := zS_callV (n := 0) (idx := 65) (by decide +kernel) rfl rfl (by decide) rfl zq_237 zq_238 zq_239 (by decide +kernel) zMk_19 (by decide +kernel) (by decide +kernel) (by decide +kernel)
theorem zr_186_329 : zSnd 186 329 (o_const 3 330) := zS_iconst (by decide +kernel) rfl (by decide)
theorem zr_186_330 : zSnd 186 330 (o_aload 4 332) := zS_aload (by decide +kernel) rfl
theorem zr_186_332 : zSnd 186 332 (o_aload 5 334) := zS_aload (by decide +kernel) rfl
theorem zr_186_334 : zSnd 186 334 (o_call 180 3 7 1 337) := zS_callS (idx := 72) (by decide +kernel) rfl zq_245 zq_246 (by decide +kernel) zMk_180 (by decide +kernel) (by decide +kernel) (by decide +kernel)
theorem zr_186_337 : zSnd 186 337 (o_ceq 342 340) := zS_ceq (by decide +kernel : decode (zmB 186) 337 = .ok (.if_icmp .eq 5, 3)) rfl (by decide)
theorem zr_186_340 : zSnd 186 340 (o_const 0 341) := zS_iconst (by decide +kernel) rfl (by decide)
theorem zr_186_341 : zSnd 186 341 (o_zret) := zS_zret (by decide +kernel) (by decide +kernel)
theorem zr_186_342 : zSnd 186 342 (o_const (-1) 343) := zS_iconst (by decide +kernel) rfl (by decide)
theorem zr_186_343 : zSnd 186 343 (o_istore 9 345) := zS_istore (by decide +kernel) rfl (by decide +kernel)
theorem zr_186_345 : zSnd 186 345 (o_const 0 346) := zS_iconst (by decide +kernel) rfl (by decide)
theorem zr_186_346 : zSnd 186 346 (o_istore 13 348) := zS_istore (by decide +kernel) rfl (by decide +kernel)
theorem zr_186_348 : zSnd 186 348 (o_iload 13 350) := zS_iload (by decide +kernel) rfl
theorem zr_186_350 : zSnd 186 350 (o_const 4 351) := zS_iconst (by decide +kernel) rfl (by decide)
theorem zr_186_351 : zSnd 186 351 (o_cge 427 354) := zS_cge (by decide +kernel : decode (zmB 186) 351 = .ok (.if_icmp .ge 76, 3)) rfl (by decide)
theorem zr_186_354 : zSnd 186 354 (o_aload 7 356) := zS_aload (by decide +kernel) rfl
theorem zr_186_356 : zSnd 186 356 (o_aload 5 358) := zS_aload (by decide +kernel) rfl
theorem zr_186_358 : zSnd 186 358 (o_call 184 2 3 0 361) := zS_callS (idx := 75) (by decide +kernel) rfl zq_247 zq_248 (by decide +kernel) zMk_184 (by decide +kernel) (by decide +kernel) (by decide +kernel)
theorem zr_186_361 : zSnd 186 361 (o_iload 1 362) := zS_iload_n (i := 1) (by decide +kernel) rfl rfl
theorem zr_186_362 : zSnd 186 362 (o_iload 13 364) := zS_iload (by decide +kernel) rfl
theorem zr_186_364 : zSnd 186 364 (o_aload 3 365) := zS_aload_n (i := 3) (by decide +kernel) rfl rfl
theorem zr_186_365 : zSnd 186 365 (o_aload 4 367) := zS_aload (by decide +kernel) rfl
theorem zr_186_367 : zSnd 186 367 (o_aload 5 369) := zS_aload (by decide +kernel) rfl
theorem zr_186_369 : zSnd 186 369 (o_aload 6 371) := zS_aload (by decide +kernel) rfl
theorem zr_186_371 : zSnd 186 371 (o_call 183 6 9 0 374) := zS_callS (idx := 99) (by decide +kernel) rfl zq_265 zq_266 (by decide +kernel) zMk_183 (by decide +kernel) (by decide +kernel) (by decide +kernel)
theorem zr_186_374 : zSnd 186 374 (o_const 3 375) := zS_iconst (by decide +kernel) rfl (by decide)
theorem zr_186_375 : zSnd 186 375 (o_aload 4 377) := zS_aload (by decide +kernel) rfl
theorem zr_186_377 : zSnd 186 377 (o_aload 5 379) := zS_aload (by decide +kernel) rfl
theorem zr_186_379 : zSnd 186 379 (o_call 180 3 7 1 382) := zS_callS (idx := 72) (by decide +kernel) rfl zq_245 zq_246 (by decide +kernel) zMk_180 (by decide +kernel) (by decide +kernel) (by decide +kernel)
theorem zr_186_382 : zSnd 186 382 (o_istore 14 384) := zS_istore (by decide +kernel) rfl (by decide +kernel)
theorem zr_186_384 : zSnd 186 384 (o_iload 9 386) := zS_iload (by decide +kernel) rfl
theorem zr_186_386 : zSnd 186 386 (o_iflt 396 389) := zS_iflt (by decide +kernel : decode (zmB 186) 386 = .ok (.ifCond .lt 10, 3)) rfl (by decide)
theorem zr_186_389 : zSnd 186 389 (o_iload 14 391) := zS_iload (by decide +kernel) rfl
theorem zr_186_391 : zSnd 186 391 (o_iload 10 393) := zS_iload (by decide +kernel) rfl
theorem zr_186_393 : zSnd 186 393 (o_cge 401 396) := zS_cge (by decide +kernel : decode (zmB 186) 393 = .ok (.if_icmp .ge 8, 3)) rfl (by decide)
theorem zr_186_396 : zSnd 186 396 (o_iload 13 398) := zS_iload (by decide +kernel) rfl
theorem zr_186_398 : zSnd 186 398 (o_goto 403) := zS_goto (by decide +kernel : decode (zmB 186) 398 = .ok (.goto 5, 3)) (by decide)
theorem zr_186_401 : zSnd 186 401 (o_iload 9 403) := zS_iload (by decide +kernel) rfl
theorem zr_186_403 : zSnd 186 403 (o_istore 9 405) := zS_istore (by decide +kernel) rfl (by decide +kernel)
theorem zr_186_405 : zSnd 186 405 (o_iload 9 407) := zS_iload (by decide +kernel) rfl
theorem zr_186_407 : zSnd 186 407 (o_iload 13 409) := zS_iload (by decide +kernel) rfl
theorem zr_186_409 : zSnd 186 409 (o_cne 417 412) := zS_cne (by decide +kernel : decode (zmB 186) 409 = .ok (.if_icmp .ne 8, 3)) rfl (by decide)
theorem zr_186_412 : zSnd 186 412 (o_iload 14 414) := zS_iload (by decide +kernel) rfl
theorem zr_186_414 : zSnd 186 414 (o_goto 419) := zS_goto (by decide +kernel : decode (zmB 186) 414 = .ok (.goto 5, 3)) (by decide)
theorem zr_186_417 : zSnd 186 417 (o_iload 10 419) := zS_iload (by decide +kernel) rfl
theorem zr_186_419 : zSnd 186 419 (o_istore 10 421) := zS_istore (by decide +kernel) rfl (by decide +kernel)
theorem zr_186_421 : zSnd 186 421 (o_iinc 13 1 424) := zS_iinc (by decide +kernel) rfl (by decide +kernel)
theorem zr_186_424 : zSnd 186 424 (o_goto 348) := zS_goto (by decide +kernel : decode (zmB 186) 424 = .ok (.goto (-76), 3)) (by decide)
theorem zr_186_427 : zSnd 186 427 (o_aload 7 429) := zS_aload (by decide +kernel) rfl
theorem zr_186_429 : zSnd 186 429 (o_aload 5 431) := zS_aload (by decide +kernel) rfl
theorem zr_186_431 : zSnd 186 431 (o_call 184 2 3 0 434) := zS_callS (idx := 75) (by decide +kernel) rfl zq_247 zq_248 (by decide +kernel) zMk_184 (by decide +kernel) (by decide +kernel) (by decide +kernel)
theorem zr_186_434 : zSnd 186 434 (o_aload 0 435) := zS_aload_n (i := 0) (by decide +kernel) rfl rfl
theorem zr_186_435 : zSnd 186 435 (o_iload 1 436) := zS_iload_n (i := 1) (by decide +kernel) rfl rfl
theorem zr_186_436 : zSnd 186 436 (o_callv 5 20 2 6 1 439) := zS_callV (n := 1) (idx := 92) (by decide +kernel) rfl rfl (by decide) rfl zq_260 zq_261 zq_262 (by decide +kernel) zMk_20 (by decide +kernel) (by decide +kernel) (by decide +kernel)
theorem zr_186_439 : zSnd 186 439 (o_const 1000000 441) := zS_ldc (idx := 102) (by decide +kernel) rfl (by decide) zq_267
theorem zr_186_441 : zSnd 186 441 (o_iload 9 443) := zS_iload (by decide +kernel) rfl
theorem zr_186_443 : zSnd 186 443 (o_imul 444) := zS_imul (by decide +kernel) rfl
theorem zr_186_444 : zSnd 186 444 (o_iload 10 446) := zS_iload (by decide +kernel) rfl
theorem zr_186_446 : zSnd 186 446 (o_iadd 447) := zS_iadd (by decide +kernel) rfl
theorem zr_186_447 : zSnd 186 447 (o_cne 454 450) := zS_cne (by decide +kernel : decode (zmB 186) 447 = .ok (.if_icmp .ne 7, 3)) rfl (by decide)
theorem zr_186_450 : zSnd 186 450 (o_const 1 451) := zS_iconst (by decide +kernel) rfl (by decide)
theorem zr_186_451 : zSnd 186 451 (o_goto 455) := zS_goto (by decide +kernel : decode (zmB 186) 451 = .ok (.goto 4, 3)) (by decide)
theorem zr_186_454 : zSnd 186 454 (o_const 0 455) := zS_iconst (by decide +kernel) rfl (by decide)
theorem zr_186_455 : zSnd 186 455 (o_zret) := zS_zret (by decide +kernel) (by decide +kernel)
theorem zT_186 (pc : Nat) : zSnd 186 pc (zc_186 pc) := by
  unfold zc_186
  exact (zSn_nd (zSn_nd (zSn_nd (zSn_nd (zSn_nd (zSn_nd (zSn_nd (zSn_lf zr_186_0) (zSn_nd (zSn_lf zr_186_1) (zSn_lf zr_186_2))) (zSn_nd (zSn_nd (zSn_lf zr_186_3) (zSn_lf zr_186_5)) (zSn_nd (zSn_lf zr_186_6) (zSn_lf zr_186_8)))) (zSn_nd (zSn_nd (zSn_nd (zSn_lf zr_186_9) (zSn_lf zr_186_11)) (zSn_nd (zSn_lf zr_186_13) (zSn_lf zr_186_15))) (zSn_nd (zSn_nd (zSn_lf zr_186_18) (zSn_lf zr_186_19)) (zSn_nd (zSn_lf zr_186_21) (zSn_lf zr_186_23))))) (zSn_nd (zSn_nd (zSn_nd (zSn_lf zr_186_24) (zSn_nd (zSn_lf zr_186_27) (zSn_lf zr_186_29))) (zSn_nd (zSn_nd (zSn_lf zr_186_30) (zSn_lf zr_186_32)) (zSn_nd (zSn_lf zr_186_34) (zSn_lf zr_186_36)))) (zSn_nd (zSn_nd (zSn_nd (zSn_lf zr_186_39) (zSn_lf zr_186_40)) (zSn_nd (zSn_lf zr_186_42) (zSn_lf zr_186_44))) (zSn_nd (zSn_nd (zSn_lf zr_186_47) (zSn_lf zr_186_49)) (zSn_nd (zSn_lf zr_186_50) (zSn_lf zr_186_52)))))) (zSn_nd (zSn_nd (zSn_nd (zSn_nd (zSn_lf zr_186_55) (zSn_nd (zSn_lf zr_186_57) (zSn_lf zr_186_60))) (zSn_nd (zSn_nd (zSn_lf zr_186_61) (zSn_lf zr_186_62)) (zSn_nd (zSn_lf zr_186_64) (zSn_lf zr_186_67)))) (zSn_nd (zSn_nd (zSn_nd (zSn_lf zr_186_69) (zSn_lf zr_186_71)) (zSn_nd (zSn_lf zr_186_74) (zSn_lf zr_186_76))) (zSn_nd (zSn_nd (zSn_lf zr_186_79) (zSn_lf zr_186_81)) (zSn_nd (zSn_lf zr_186_83) (zSn_lf zr_186_85))))) (zSn_nd (zSn_nd (zSn_nd (zSn_lf zr_186_87) (zSn_nd (zSn_lf zr_186_90) (zSn_lf zr_186_92))) (zSn_nd (zSn_nd (zSn_lf zr_186_95) (zSn_lf zr_186_97)) (zSn_nd (zSn_lf zr_186_99) (zSn_lf zr_186_102)))) (zSn_nd (zSn_nd (zSn_nd (zSn_lf zr_186_105) (zSn_lf zr_186_106)) (zSn_nd (zSn_lf zr_186_109) (zSn_lf zr_186_111))) (zSn_nd (zSn_nd (zSn_lf zr_186_114) (zSn_lf zr_186_115)) (zSn_nd (zSn_lf zr_186_116) (zSn_lf zr_186_117))))))) (zSn_nd (zSn_nd (zSn_nd (zSn_nd (zSn_nd (zSn_lf zr_186_118) (zSn_nd (zSn_lf zr_186_120) (zSn_lf zr_186_122))) (zSn_nd (zSn_nd (zSn_lf zr_186_124) (zSn_lf zr_186_127)) (zSn_nd (zSn_lf zr_186_128) (zSn_lf zr_186_130)))) (zSn_nd (zSn_nd (zSn_nd (zSn_lf zr_186_132) (zSn_lf zr_186_135)) (zSn_nd (zSn_lf zr_186_137) (zSn_lf zr_186_138))) (zSn_nd (zSn_nd (zSn_lf zr_186_140) (zSn_lf zr_186_141)) (zSn_nd (zSn_lf zr_186_143) (zSn_lf zr_186_145))))) (zSn_nd (zSn_nd (zSn_nd (zSn_lf zr_186_147) (zSn_nd (zSn_lf zr_186_150) (zSn_lf zr_186_152))) (zSn_nd (zSn_nd (zSn_lf zr_186_154) (zSn_lf zr_186_157)) (zSn_nd (zSn_lf zr_186_160) (zSn_lf zr_186_162)))) (zSn_nd (zSn_nd (zSn_nd (zSn_lf zr_186_163) (zSn_lf zr_186_165)) (zSn_nd (zSn_lf zr_186_166) (zSn_lf zr_186_167))) (zSn_nd (zSn_nd (zSn_lf zr_186_168) (zSn_lf zr_186_169)) (zSn_nd (zSn_lf zr_186_170) (zSn_lf zr_186_173)))))) (zSn_nd (zSn_nd (zSn_nd (zSn_nd (zSn_lf zr_186_176) (zSn_nd (zSn_lf zr_186_178) (zSn_lf zr_186_179))) (zSn_nd (zSn_nd (zSn_lf zr_186_181) (zSn_lf zr_186_182)) (zSn_nd (zSn_lf zr_186_183) (zSn_lf zr_186_184)))) (zSn_nd (zSn_nd (zSn_nd (zSn_lf zr_186_185) (zSn_lf zr_186_186)) (zSn_nd (zSn_lf zr_186_187) (zSn_lf zr_186_188))) (zSn_nd (zSn_nd (zSn_lf zr_186_189) (zSn_lf zr_186_190)) (zSn_nd (zSn_lf zr_186_191) (zSn_lf zr_186_193))))) (zSn_nd (zSn_nd (zSn_nd (zSn_nd (zSn_lf zr_186_195) (zSn_lf zr_186_197)) (zSn_nd (zSn_lf zr_186_200) (zSn_lf zr_186_201))) (zSn_nd (zSn_nd (zSn_lf zr_186_203) (zSn_lf zr_186_205)) (zSn_nd (zSn_lf zr_186_208) (zSn_lf zr_186_210)))) (zSn_nd (zSn_nd (zSn_nd (zSn_lf zr_186_212) (zSn_lf zr_186_213)) (zSn_nd (zSn_lf zr_186_215) (zSn_lf zr_186_216))) (zSn_nd (zSn_nd (zSn_lf zr_186_217) (zSn_lf zr_186_218)) (zSn_nd (zSn_lf zr_186_219) (zSn_lf zr_186_220)))))))) (zSn_nd (zSn_nd (zSn_nd (zSn_nd (zSn_nd (zSn_nd (zSn_lf zr_186_221) (zSn_nd (zSn_lf zr_186_222) (zSn_lf zr_186_223))) (zSn_nd (zSn_nd (zSn_lf zr_186_225) (zSn_lf zr_186_227)) (zSn_nd (zSn_lf zr_186_230) (zSn_lf zr_186_232)))) (zSn_nd (zSn_nd (zSn_nd (zSn_lf zr_186_234) (zSn_lf zr_186_235)) (zSn_nd (zSn_lf zr_186_236) (zSn_lf zr_186_237))) (zSn_nd (zSn_nd (zSn_lf zr_186_239) (zSn_lf zr_186_240)) (zSn_nd (zSn_lf zr_186_241) (zSn_lf zr_186_242))))) (zSn_nd (zSn_nd (zSn_nd (zSn_lf zr_186_245) (zSn_nd (zSn_lf zr_186_247) (zSn_lf zr_186_249))) (zSn_nd (zSn_nd (zSn_lf zr_186_251) (zSn_lf zr_186_253)) (zSn_nd (zSn_lf zr_186_256) (zSn_lf zr_186_258)))) (zSn_nd (zSn_nd (zSn_nd (zSn_lf zr_186_261) (zSn_lf zr_186_263)) (zSn_nd (zSn_lf zr_186_265) (zSn_lf zr_186_268))) (zSn_nd (zSn_nd (zSn_lf zr_186_271) (zSn_lf zr_186_272)) (zSn_nd (zSn_lf zr_186_273) (zSn_lf zr_186_276)))))) (zSn_nd (zSn_nd (zSn_nd (zSn_nd (zSn_lf zr_186_278) (zSn_nd (zSn_lf zr_186_281) (zSn_lf zr_186_282))) (zSn_nd (zSn_nd (zSn_lf zr_186_283) (zSn_lf zr_186_285)) (zSn_nd (zSn_lf zr_186_287) (zSn_lf zr_186_290)))) (zSn_nd (zSn_nd (zSn_nd (zSn_lf zr_186_291) (zSn_lf zr_186_292)) (zSn_nd (zSn_lf zr_186_294) (zSn_lf zr_186_295))) (zSn_nd (zSn_nd (zSn_lf zr_186_297) (zSn_lf zr_186_300)) (zSn_nd (zSn_lf zr_186_301) (zSn_lf zr_186_302))))) (zSn_nd (zSn_nd (zSn_nd (zSn_lf zr_186_305) (zSn_nd (zSn_lf zr_186_306) (zSn_lf zr_186_309))) (zSn_nd (zSn_nd (zSn_lf zr_186_310) (zSn_lf zr_186_313)) (zSn_nd (zSn_lf zr_186_314) (zSn_lf zr_186_315)))) (zSn_nd (zSn_nd (zSn_nd (zSn_lf zr_186_316) (zSn_lf zr_186_318)) (zSn_nd (zSn_lf zr_186_320) (zSn_lf zr_186_322))) (zSn_nd (zSn_nd (zSn_lf zr_186_325) (zSn_lf zr_186_326)) (zSn_nd (zSn_lf zr_186_329) (zSn_lf zr_186_330))))))) (zSn_nd (zSn_nd (zSn_nd (zSn_nd (zSn_nd (zSn_lf zr_186_332) (zSn_nd (zSn_lf zr_186_334) (zSn_lf zr_186_337))) (zSn_nd (zSn_nd (zSn_lf zr_186_340) (zSn_lf zr_186_341)) (zSn_nd (zSn_lf zr_186_342) (zSn_lf zr_186_343)))) (zSn_nd (zSn_nd (zSn_nd (zSn_lf zr_186_345) (zSn_lf zr_186_346)) (zSn_nd (zSn_lf zr_186_348) (zSn_lf zr_186_350))) (zSn_nd (zSn_nd (zSn_lf zr_186_351) (zSn_lf zr_186_354)) (zSn_nd (zSn_lf zr_186_356) (zSn_lf zr_186_358))))) (zSn_nd (zSn_nd (zSn_nd (zSn_lf zr_186_361) (zSn_nd (zSn_lf zr_186_362) (zSn_lf zr_186_364))) (zSn_nd (zSn_nd (zSn_lf zr_186_365) (zSn_lf zr_186_367)) (zSn_nd (zSn_lf zr_186_369) (zSn_lf zr_186_371)))) (zSn_nd (zSn_nd (zSn_nd (zSn_lf zr_186_374) (zSn_lf zr_186_375)) (zSn_nd (zSn_lf zr_186_377) (zSn_lf zr_186_379))) (zSn_nd (zSn_nd (zSn_lf zr_186_382) (zSn_lf zr_186_384)) (zSn_nd (zSn_lf zr_186_386) (zSn_lf zr_186_389)))))) (zSn_nd (zSn_nd (zSn_nd (zSn_nd (zSn_lf zr_186_391) (zSn_nd (zSn_lf zr_186_393) (zSn_lf zr_186_396))) (zSn_nd (zSn_nd (zSn_lf zr_186_398) (zSn_lf zr_186_401)) (zSn_nd (zSn_lf zr_186_403) (zSn_lf zr_186_405)))) (zSn_nd (zSn_nd (zSn_nd (zSn_lf zr_186_407) (zSn_lf zr_186_409)) (zSn_nd (zSn_lf zr_186_412) (zSn_lf zr_186_414))) (zSn_nd (zSn_nd (zSn_lf zr_186_417) (zSn_lf zr_186_419)) (zSn_nd (zSn_lf zr_186_421) (zSn_lf zr_186_424))))) (zSn_nd (zSn_nd (zSn_nd (zSn_nd (zSn_lf zr_186_427) (zSn_lf zr_186_429)) (zSn_nd (zSn_lf zr_186_431) (zSn_lf zr_186_434))) (zSn_nd (zSn_nd (zSn_lf zr_186_435) (zSn_lf zr_186_436)) (zSn_nd (zSn_lf zr_186_439) (zSn_lf zr_186_441)))) (zSn_nd (zSn_nd (zSn_nd (zSn_lf zr_186_443) (zSn_lf zr_186_444)) (zSn_nd (zSn_lf zr_186_446) (zSn_lf zr_186_447))) (zSn_nd (zSn_nd (zSn_lf zr_186_450) (zSn_lf zr_186_451)) (zSn_nd (zSn_lf zr_186_454) (zSn_lf zr_186_455)))))))))
theorem zr_187_35 : zSnd 187 35 (o_const 0 36) := zS_iconst (by decide +kernel) rfl (by decide)
theorem zr_187_36 : zSnd 187 36 (o_istore 7 38) := zS_istore (by decide +kernel) rfl (by decide +kernel)
theorem zr_187_38 : zSnd 187 38 (o_iload 7 40) := zS_iload (by decide +kernel) rfl
theorem zr_187_40 : zSnd 187 40 (o_const 3 41) := zS_iconst (by decide +kernel) rfl (by decide)
theorem zr_187_41 : zSnd 187 41 (o_cge 240 44) := zS_cge (by decide +kernel : decode (zmB 187) 41 = .ok (.if_icmp .ge 199, 3)) rfl (by decide)
theorem zr_187_44 : zSnd 187 44 (o_stp 44) := zS_stp
theorem zr_187_50 : zSnd 187 50 (o_istore 8 52) := zS_istore (by decide +kernel) rfl (by decide +kernel)
theorem zr_187_52 : zSnd 187 52 (o_aload 3 53) := zS_aload_n (i := 3) (by decide +kernel) rfl rfl
theorem zr_187_53 : zSnd 187 53 (o_const 3 54) := zS_iconst (by decide +kernel) rfl (by decide)
theorem zr_187_54 : zSnd 187 54 (o_iload 7 56) := zS_iload (by decide +kernel) rfl
theorem zr_187_56 : zSnd 187 56 (o_imul 57) := zS_imul (by decide +kernel) rfl
theorem zr_187_57 : zSnd 187 57 (o_const 1 58) := zS_iconst (by decide +kernel) rfl (by decide)
theorem zr_187_58 : zSnd 187 58 (o_iload 8 60) := zS_iload (by decide +kernel) rfl
theorem zr_187_60 : zSnd 187 60 (o_const 9 62) := zS_bipush (by decide +kernel) rfl (by decide) (by decide)
theorem zr_187_62 : zSnd 187 62 (o_call 171 2 2 1 65) := zS_callS (idx := 108) (by decide +kernel) rfl zq_268 zq_269 (by decide +kernel) zMk_171 (by decide +kernel) (by decide +kernel) (by decide +kernel)
theorem zr_187_65 : zSnd 187 65 (o_iadd 66) := zS_iadd (by decide +kernel) rfl
theorem zr_187_66 : zSnd 187 66 (o_iast 67) := zS_iast (by decide +kernel) rfl
theorem zr_187_67 : zSnd 187 67 (o_aload 3 68) := zS_aload_n (i := 3) (by decide +kernel) rfl rfl
theorem zr_187_68 : zSnd 187 68 (o_const 3 69) := zS_iconst (by decide +kernel) rfl (by decide)
theorem zr_187_69 : zSnd 187 69 (o_iload 7 71) := zS_iload (by decide +kernel) rfl
theorem zr_187_71 : zSnd 187 71 (o_imul 72) := zS_imul (by decide +kernel) rfl
theorem zr_187_72 : zSnd 187 72 (o_const 1 73) := zS_iconst (by decide +kernel) rfl (by decide)
theorem zr_187_73 : zSnd 187 73 (o_iadd 74) := zS_iadd (by decide +kernel) rfl
theorem zr_187_74 : zSnd 187 74 (o_iload 8 76) := zS_iload (by decide +kernel) rfl
theorem zr_187_76 : zSnd 187 76 (o_const 4 77) := zS_iconst (by decide +kernel) rfl (by decide)
theorem zr_187_77 : zSnd 187 77 (o_ishr 78) := zS_ishr (by decide +kernel) rfl
theorem zr_187_78 : zSnd 187 78 (o_const 60 80) := zS_bipush (by decide +kernel) rfl (by decide) (by decide)
theorem zr_187_80 : zSnd 187 80 (o_call 171 2 2 1 83) := zS_callS (idx := 108) (by decide +kernel) rfl zq_268 zq_269 (by decide +kernel) zMk_171 (by decide +kernel) (by decide +kernel) (by decide +kernel)
theorem zr_187_83 : zSnd 187 83 (o_iast 84) := zS_iast (by decide +kernel) rfl
theorem zr_187_84 : zSnd 187 84 (o_aload 1 85) := zS_aload_n (i := 1) (by decide +kernel) rfl rfl
theorem zr_187_85 : zSnd 187 85 (o_aload 3 86) := zS_aload_n (i := 3) (by decide +kernel) rfl rfl
theorem zr_187_86 : zSnd 187 86 (o_const 3 87) := zS_iconst (by decide +kernel) rfl (by decide)
theorem zr_187_87 : zSnd 187 87 (o_iload 7 89) := zS_iload (by decide +kernel) rfl
theorem zr_187_89 : zSnd 187 89 (o_imul 90) := zS_imul (by decide +kernel) rfl
theorem zr_187_90 : zSnd 187 90 (o_iald 91) := zS_iald (by decide +kernel) rfl
theorem zr_187_91 : zSnd 187 91 (o_aload 3 92) := zS_aload_n (i := 3) (by decide +kernel) rfl rfl
theorem zr_187_92 : zSnd 187 92 (o_const 3 93) := zS_iconst (by decide +kernel) rfl (by decide)
theorem zr_187_93 : zSnd 187 93 (o_iload 7 95) := zS_iload (by decide +kernel) rfl
theorem zr_187_95 : zSnd 187 95 (o_imul 96) := zS_imul (by decide +kernel) rfl
theorem zr_187_96 : zSnd 187 96 (o_const 1 97) := zS_iconst (by decide +kernel) rfl (by decide)
theorem zr_187_97 : zSnd 187 97 (o_iadd 98) := zS_iadd (by decide +kernel) rfl
theorem zr_187_98 : zSnd 187 98 (o_iald 99) := zS_iald (by decide +kernel) rfl
theorem zr_187_99 : zSnd 187 99 (o_callv 5 1 3 3 1 102) := zS_callV (n := 2) (idx := 111) (by decide +kernel) rfl rfl (by decide) rfl zq_270 zq_271 zq_272 (by decide +kernel) zMk_1 (by decide +kernel) (by decide +kernel) (by decide +kernel)
theorem zr_187_102 : zSnd 187 102 (o_iload 7 104) := zS_iload (by decide +kernel) rfl
theorem zr_187_104 : zSnd 187 104 (o_ceq 109 107) := zS_ceq (by decide +kernel : decode (zmB 187) 104 = .ok (.if_icmp .eq 5, 3)) rfl (by decide)
theorem zr_187_107 : zSnd 187 107 (o_const 0 108) := zS_iconst (by decide +kernel) rfl (by decide)
theorem zr_187_108 : zSnd 187 108 (o_zret) := zS_zret (by decide +kernel) (by decide +kernel)
theorem zr_187_109 : zSnd 187 109 (o_iload 8 111) := zS_iload (by decide +kernel) rfl
theorem zr_187_111 : zSnd 187 111 (o_const 10 113) := zS_bipush (by decide +kernel) rfl (by decide) (by decide)
theorem zr_187_113 : zSnd 187 113 (o_ishr 114) := zS_ishr (by decide +kernel) rfl
theorem zr_187_114 : zSnd 187 114 (o_const 5 115) := zS_iconst (by decide +kernel) rfl (by decide)
theorem zr_187_115 : zSnd 187 115 (o_call 171 2 2 1 118) := zS_callS (idx := 108) (by decide +kernel) rfl zq_268 zq_269 (by decide +kernel) zMk_171 (by decide +kernel) (by decide +kernel) (by decide +kernel)
theorem zr_187_118 : zSnd 187 118 (o_istore 9 120) := zS_istore (by decide +kernel) rfl (by decide +kernel)
theorem zr_187_120 : zSnd 187 120 (o_const 0 121) := zS_iconst (by decide +kernel) rfl (by decide)
theorem zr_187_121 : zSnd 187 121 (o_istore 10 123) := zS_istore (by decide +kernel) rfl (by decide +kernel)
theorem zr_187_123 : zSnd 187 123 (o_iload 10 125) := zS_iload (by decide +kernel) rfl
theorem zr_187_125 : zSnd 187 125 (o_iload 9 127) := zS_iload (by decide +kernel) rfl
theorem zr_187_127 : zSnd 187 127 (o_cge 234 130) := zS_cge (by decide +kernel : decode (zmB 187) 127 = .ok (.if_icmp .ge 107, 3)) rfl (by decide)
theorem zr_187_130 : zSnd 187 130 (o_stp 130) := zS_stp
theorem zr_187_143 : zSnd 187 143 (o_istore 11 145) := zS_istore (by decide +kernel) rfl (by decide +kernel)
theorem zr_187_145 : zSnd 187 145 (o_const 4 146) := zS_iconst (by decide +kernel) rfl (by decide)
theorem zr_187_146 : zSnd 187 146 (o_iload 7 148) := zS_iload (by decide +kernel) rfl
theorem zr_187_148 : zSnd 187 148 (o_imul 149) := zS_imul (by decide +kernel) rfl
theorem zr_187_149 : zSnd 187 149 (o_iload 10 151) := zS_iload (by decide +kernel) rfl
theorem zr_187_151 : zSnd 187 151 (o_iadd 152) := zS_iadd (by decide +kernel) rfl
theorem zr_187_152 : zSnd 187 152 (o_istore 12 154) := zS_istore (by decide +kernel) rfl (by decide +kernel)
theorem zr_187_154 : zSnd 187 154 (o_aload 4 156) := zS_aload (by decide +kernel) rfl
theorem zr_187_156 : zSnd 187 156 (o_const 4 157) := zS_iconst (by decide +kernel) rfl (by decide)
theorem zr_187_157 : zSnd 187 157 (o_iload 12 159) := zS_iload (by decide +kernel) rfl
theorem zr_187_159 : zSnd 187 159 (o_imul 160) := zS_imul (by decide +kernel) rfl
theorem zr_187_160 : zSnd 187 160 (o_iload 11 162) := zS_iload (by decide +kernel) rfl
theorem zr_187_162 : zSnd 187 162 (o_const 3 163) := zS_iconst (by decide +kernel) rfl (by decide)
theorem zr_187_163 : zSnd 187 163 (o_call 171 2 2 1 166) := zS_callS (idx := 108) (by decide +kernel) rfl zq_268 zq_269 (by decide +kernel) zMk_171 (by decide +kernel) (by decide +kernel) (by decide +kernel)
theorem zr_187_166 : zSnd 187 166 (o_iast 167) := zS_iast (by decide +kernel) rfl
theorem zr_187_167 : zSnd 187 167 (o_aload 4 169) := zS_aload (by decide +kernel) rfl
theorem zr_187_169 : zSnd 187 169 (o_const 4 170) := zS_iconst (by decide +kernel) rfl (by decide)
theorem zr_187_170 : zSnd 187 170 (o_iload 12 172) := zS_iload (by decide +kernel) rfl
theorem zr_187_172 : zSnd 187 172 (o_imul 173) := zS_imul (by decide +kernel) rfl
theorem zr_187_173 : zSnd 187 173 (o_const 1 174) := zS_iconst (by decide +kernel) rfl (by decide)
theorem zr_187_174 : zSnd 187 174 (o_iadd 175) := zS_iadd (by decide +kernel) rfl
theorem zr_187_175 : zSnd 187 175 (o_const 1 176) := zS_iconst (by decide +kernel) rfl (by decide)
theorem zr_187_176 : zSnd 187 176 (o_iload 11 178) := zS_iload (by decide +kernel) rfl
theorem zr_187_178 : zSnd 187 178 (o_const 2 179) := zS_iconst (by decide +kernel) rfl (by decide)
theorem zr_187_179 : zSnd 187 179 (o_ishr 180) := zS_ishr (by decide +kernel) rfl
theorem zr_187_180 : zSnd 187 180 (o_const 12 182) := zS_bipush (by decide +kernel) rfl (by decide) (by decide)
theorem zr_187_182 : zSnd 187 182 (o_call 171 2 2 1 185) := zS_callS (idx := 108) (by decide +kernel) rfl zq_268 zq_269 (by decide +kernel) zMk_171 (by decide +kernel) (by decide +kernel) (by decide +kernel)
theorem zr_187_185 : zSnd 187 185 (o_iadd 186) := zS_iadd (by decide +kernel) rfl
theorem zr_187_186 : zSnd 187 186 (o_iast 187) := zS_iast (by decide +kernel) rfl
theorem zr_187_187 : zSnd 187 187 (o_aload 3 188) := zS_aload_n (i := 3) (by decide +kernel) rfl rfl
theorem zr_187_188 : zSnd 187 188 (o_const 3 189) := zS_iconst (by decide +kernel) rfl (by decide)
theorem zr_187_189 : zSnd 187 189 (o_iload 7 191) := zS_iload (by decide +kernel) rfl
theorem zr_187_191 : zSnd 187 191 (o_imul 192) := zS_imul (by decide +kernel) rfl
theorem zr_187_192 : zSnd 187 192 (o_const 2 193) := zS_iconst (by decide +kernel) rfl (by decide)
theorem zr_187_193 : zSnd 187 193 (o_iadd 194) := zS_iadd (by decide +kernel) rfl
theorem zr_187_194 : zSnd 187 194 (o_dup2 195) := zS_dup2 (by decide +kernel) rfl
theorem zr_187_195 : zSnd 187 195 (o_iald 196) := zS_iald (by decide +kernel) rfl
theorem zr_187_196 : zSnd 187 196 (o_const 1 197) := zS_iconst (by decide +kernel) rfl (by decide)
theorem zr_187_197 : zSnd 187 197 (o_iadd 198) := zS_iadd (by decide +kernel) rfl
theorem zr_187_198 : zSnd 187 198 (o_iast 199) := zS_iast (by decide +kernel) rfl
theorem zr_187_199 : zSnd 187 199 (o_aload 1 200) := zS_aload_n (i := 1) (by decide +kernel) rfl rfl
theorem zr_187_200 : zSnd 187 200 (o_iload 7 202) := zS_iload (by decide +kernel) rfl
theorem zr_187_202 : zSnd 187 202 (o_aload 4 204) := zS_aload (by decide +kernel) rfl
theorem zr_187_204 : zSnd 187 204 (o_const 4 205) := zS_iconst (by decide +kernel) rfl (by decide)
theorem zr_187_205 : zSnd 187 205 (o_iload 12 207) := zS_iload (by decide +kernel) rfl
theorem zr_187_207 : zSnd 187 207 (o_imul 208) := zS_imul (by decide +kernel) rfl
theorem zr_187_208 : zSnd 187 208 (o_iald 209) := zS_iald (by decide +kernel) rfl
theorem zr_187_209 : zSnd 187 209 (o_aload 4 211) := zS_aload (by decide +kernel) rfl
theorem zr_187_211 : zSnd 187 211 (o_const 4 212) := zS_iconst (by decide +kernel) rfl (by decide)
theorem zr_187_212 : zSnd 187 212 (o_iload 12 214) := zS_iload (by decide +kernel) rfl
theorem zr_187_214 : zSnd 187 214 (o_imul 215) := zS_imul (by decide +kernel) rfl
theorem zr_187_215 : zSnd 187 215 (o_const 1 216) := zS_iconst (by decide +kernel) rfl (by decide)
theorem zr_187_216 : zSnd 187 216 (o_iadd 217) := zS_iadd (by decide +kernel) rfl
theorem zr_187_217 : zSnd 187 217 (o_iald 218) := zS_iald (by decide +kernel) rfl
theorem zr_187_218 : zSnd 187 218 (o_callv 5 2 4 4 1 221) := zS_callV (n := 3) (idx := 114) (by decide +kernel) rfl rfl (by decide) rfl zq_273 zq_274 zq_275 (by decide +kernel) zMk_2 (by decide +kernel) (by decide +kernel) (by decide +kernel)
theorem zr_187_221 : zSnd 187 221 (o_iload 10 223) := zS_iload (by decide +kernel) rfl
theorem zr_187_223 : zSnd 187 223 (o_ceq 228 226) := zS_ceq (by decide +kernel : decode (zmB 187) 223 = .ok (.if_icmp .eq 5, 3)) rfl (by decide)
theorem zr_187_226 : zSnd 187 226 (o_const 0 227) := zS_iconst (by decide +kernel) rfl (by decide)
theorem zr_187_227 : zSnd 187 227 (o_zret) := zS_zret (by decide +kernel) (by decide +kernel)
theorem zr_187_228 : zSnd 187 228 (o_iinc 10 1 231) := zS_iinc (by decide +kernel) rfl (by decide +kernel)
theorem zr_187_231 : zSnd 187 231 (o_goto 123) := zS_goto (by decide +kernel : decode (zmB 187) 231 = .ok (.goto (-108), 3)) (by decide)
theorem zr_187_234 : zSnd 187 234 (o_iinc 7 1 237) := zS_iinc (by decide +kernel) rfl (by decide +kernel)
theorem zr_187_237 : zSnd 187 237 (o_goto 38) := zS_goto (by decide +kernel : decode (zmB 187) 237 = .ok (.goto (-199), 3)) (by decide)
theorem zr_187_240 : zSnd 187 240 (o_const 0 241) := zS_iconst (by decide +kernel) rfl (by decide)
theorem zr_187_241 : zSnd 187 241 (o_istore 7 243) := zS_istore (by decide +kernel) rfl (by decide +kernel)
theorem zr_187_243 : zSnd 187 243 (o_iload 7 245) := zS_iload (by decide +kernel) rfl
theorem zr_187_245 : zSnd 187 245 (o_const 9 247) := zS_bipush (by decide +kernel) rfl (by decide) (by decide)
theorem zr_187_247 : zSnd 187 247 (o_cge 877 250) := zS_cge (by decide +kernel : decode (zmB 187) 247 = .ok (.if_icmp .ge 630, 3)) rfl (by decide)
theorem zr_187_250 : zSnd 187 250 (o_stp 250) := zS_stp
theorem zr_187_261 : zSnd 187 261 (o_istore 8 263) := zS_istore (by decide +kernel) rfl (by decide +kernel)
theorem zr_187_263 : zSnd 187 263 (o_stp 263) := zS_stp
theorem zr_187_274 : zSnd 187 274 (o_istore 9 276) := zS_istore (by decide +kernel) rfl (by decide +kernel)
theorem zr_187_276 : zSnd 187 276 (o_iload 8 278) := zS_iload (by decide +kernel) rfl
theorem zr_187_278 : zSnd 187 278 (o_const 8 280) := zS_bipush (by decide +kernel) rfl (by decide) (by decide)
theorem zr_187_280 : zSnd 187 280 (o_call 171 2 2 1 283) := zS_callS (idx := 108) (by decide +kernel) rfl zq_268 zq_269 (by decide +kernel) zMk_171 (by decide +kernel) (by decide +kernel) (by decide +kernel)
theorem zr_187_283 : zSnd 187 283 (o_istore 10 285) := zS_istore (by decide +kernel) rfl (by decide +kernel)
theorem zr_187_285 : zSnd 187 285 (o_iload 8 287) := zS_iload (by decide +kernel) rfl
theorem zr_187_287 : zSnd 187 287 (o_const 3 288) := zS_iconst (by decide +kernel) rfl (by decide)
theorem zr_187_288 : zSnd 187 288 (o_ishr 289) := zS_ishr (by decide +kernel) rfl
theorem zr_187_289 : zSnd 187 289 (o_const 4 290) := zS_iconst (by decide +kernel) rfl (by decide)
theorem zr_187_290 : zSnd 187 290 (o_call 171 2 2 1 293) := zS_callS (idx := 108) (by decide +kernel) rfl zq_268 zq_269 (by decide +kernel) zMk_171 (by decide +kernel) (by decide +kernel) (by decide +kernel)
theorem zr_187_293 : zSnd 187 293 (o_istore 11 295) := zS_istore (by decide +kernel) rfl (by decide +kernel)
theorem zr_187_295 : zSnd 187 295 (o_iload 8 297) := zS_iload (by decide +kernel) rfl
theorem zr_187_297 : zSnd 187 297 (o_const 5 298) := zS_iconst (by decide +kernel) rfl (by decide)
theorem zr_187_298 : zSnd 187 298 (o_ishr 299) := zS_ishr (by decide +kernel) rfl
theorem zr_187_299 : zSnd 187 299 (o_const 50 301) := zS_bipush (by decide +kernel) rfl (by decide) (by decide)
theorem zr_187_301 : zSnd 187 301 (o_call 171 2 2 1 304) := zS_callS (idx := 108) (by decide +kernel) rfl zq_268 zq_269 (by decide +kernel) zMk_171 (by decide +kernel) (by decide +kernel) (by decide +kernel)
theorem zr_187_304 : zSnd 187 304 (o_istore 12 306) := zS_istore (by decide +kernel) rfl (by decide +kernel)
theorem zr_187_306 : zSnd 187 306 (o_iload 10 308) := zS_iload (by decide +kernel) rfl
theorem zr_187_308 : zSnd 187 308 (o_const 2 309) := zS_iconst (by decide +kernel) rfl (by decide)
theorem zr_187_309 : zSnd 187 309 (o_clt 325 312) := zS_clt (by decide +kernel : decode (zmB 187) 309 = .ok (.if_icmp .lt 16, 3)) rfl (by decide)
theorem zr_187_312 : zSnd 187 312 (o_aload 2 313) := zS_aload_n (i := 2) (by decide +kernel) rfl rfl
theorem zr_187_313 : zSnd 187 313 (o_const 1 314) := zS_iconst (by decide +kernel) rfl (by decide)
theorem zr_187_314 : zSnd 187 314 (o_iald 315) := zS_iald (by decide +kernel) rfl
theorem zr_187_315 : zSnd 187 315 (o_ifne 354 318) := zS_ifne (by decide +kernel : decode (zmB 187) 315 = .ok (.ifCond .ne 39, 3)) rfl (by decide)
theorem zr_187_318 : zSnd 187 318 (o_iload 10 320) := zS_iload (by decide +kernel) rfl
theorem zr_187_320 : zSnd 187 320 (o_const 6 322) := zS_bipush (by decide +kernel) rfl (by decide) (by decide)
theorem zr_187_322 : zSnd 187 322 (o_cge 354 325) := zS_cge (by decide +kernel : decode (zmB 187) 322 = .ok (.if_icmp .ge 32, 3)) rfl (by decide)
theorem zr_187_325 : zSnd 187 325 (o_iload 11 327) := zS_iload (by decide +kernel) rfl
theorem zr_187_327 : zSnd 187 327 (o_aload 2 328) := zS_aload_n (i := 2) (by decide +kernel) rfl rfl
theorem zr_187_328 : zSnd 187 328 (o_aload 3 329) := zS_aload_n (i := 3) (by decide +kernel) rfl rfl
theorem zr_187_329 : zSnd 187 329 (o_aload 4 331) := zS_aload (by decide +kernel) rfl
theorem zr_187_331 : zSnd 187 331 (o_aload 6 333) := zS_aload (by decide +kernel) rfl
theorem zr_187_333 : zSnd 187 333 (o_call 181 5 6 0 336) := zS_callS (idx := 79) (by decide +kernel) rfl zq_249 zq_250 (by decide +kernel) zMk_181 (by decide +kernel) (by decide +kernel) (by decide +kernel)
theorem zr_187_336 : zSnd 187 336 (o_aload 1 337) := zS_aload_n (i := 1) (by decide +kernel) rfl rfl
theorem zr_187_337 : zSnd 187 337 (o_iload 11 339) := zS_iload (by decide +kernel) rfl
theorem zr_187_339 : zSnd 187 339 (o_callv 5 5 2 2 1 342) := zS_callV (n := 1) (idx := 117) (by decide +kernel) rfl rfl (by decide) rfl zq_276 zq_277 zq_278 (by decide +kernel) zMk_5 (by decide +kernel) (by decide +kernel) (by decide +kernel)
theorem zr_187_342 : zSnd 187 342 (o_const 3 343) := zS_iconst (by decide +kernel) rfl (by decide)
theorem zr_187_343 : zSnd 187 343 (o_aload 3 344) := zS_aload_n (i := 3) (by decide +kernel) rfl rfl
theorem zr_187_344 : zSnd 187 344 (o_aload 4 346) := zS_aload (by decide +kernel) rfl
theorem zr_187_346 : zSnd 187 346 (o_call 180 3 7 1 349) := zS_callS (idx := 72) (by decide +kernel) rfl zq_245 zq_246 (by decide +kernel) zMk_180 (by decide +kernel) (by decide +kernel) (by decide +kernel)
theorem zr_187_349 : zSnd 187 349 (o_ceq 682 352) := zS_ceq (by decide +kernel : decode (zmB 187) 349 = .ok (.if_icmp .eq 333, 3)) rfl (by decide)
theorem zr_187_352 : zSnd 187 352 (o_const 0 353) := zS_iconst (by decide +kernel) rfl (by decide)
theorem zr_187_353 : zSnd 187 353 (o_zret) := zS_zret (by decide +kernel) (by decide +kernel)
theorem zr_187_354 : zSnd 187 354 (o_iload 10 356) := zS_iload (by decide +kernel) rfl
theorem zr_187_356 : zSnd 187 356 (o_const 2 357) := zS_iconst (by decide +kernel) rfl (by decide)
theorem zr_187_357 : zSnd 187 357 (o_cne 385 360) := zS_cne (by decide +kernel : decode (zmB 187) 357 = .ok (.if_icmp .ne 28, 3)) rfl (by decide)
theorem zr_187_360 : zSnd 187 360 (o_aload 2 361) := zS_aload_n (i := 2) (by decide +kernel) rfl rfl
theorem zr_187_361 : zSnd 187 361 (o_aload 3 362) := zS_aload_n (i := 3) (by decide +kernel) rfl rfl
theorem zr_187_362 : zSnd 187 362 (o_aload 4 364) := zS_aload (by decide +kernel) rfl
theorem zr_187_364 : zSnd 187 364 (o_aload 6 366) := zS_aload (by decide +kernel) rfl
theorem zr_187_366 : zSnd 187 366 (o_call 182 4 9 0 369) := zS_callS (idx := 95) (by decide +kernel) rfl zq_263 zq_264 (by decide +kernel) zMk_182 (by decide +kernel) (by decide +kernel) (by decide +kernel)
theorem zr_187_369 : zSnd 187 369 (o_aload 1 370) := zS_aload_n (i := 1) (by decide +kernel) rfl rfl
theorem zr_187_370 : zSnd 187 370 (o_callv 5 6 1 1 1 373) := zS_callV (n := 0) (idx := 119) (by decide +kernel) rfl rfl (by decide) rfl zq_279 zq_280 zq_281 (by decide +kernel) zMk_6 (by decide +kernel) (by decide +kernel) (by decide +kernel)
theorem zr_187_373 : zSnd 187 373 (o_const 3 374) := zS_iconst (by decide +kernel) rfl (by decide)
theorem zr_187_374 : zSnd 187 374 (o_aload 3 375) := zS_aload_n (i := 3) (by decide +kernel) rfl rfl
theorem zr_187_375 : zSnd 187 375 (o_aload 4 377) := zS_aload (by decide +kernel) rfl
theorem zr_187_377 : zSnd 187 377 (o_call 180 3 7 1 380) := zS_callS (idx := 72) (by decide +kernel) rfl zq_245 zq_246 (by decide +kernel) zMk_180 (by decide +kernel) (by decide +kernel) (by decide +kernel)
theorem zr_187_380 : zSnd 187 380 (o_ceq 682 383) := zS_ceq (by decide +kernel : decode (zmB 187) 380 = .ok (.if_icmp .eq 302, 3)) rfl (by decide)
theorem zr_187_383 : zSnd 187 383 (o_const 0 384) := zS_iconst (by decide +kernel) rfl (by decide)
theorem zr_187_384 : zSnd 187 384 (o_zret) := zS_zret (by decide +kernel) (by decide +kernel)
theorem zr_187_385 : zSnd 187 385 (o_iload 10 387) := zS_iload (by decide +kernel) rfl
theorem zr_187_387 : zSnd 187 387 (o_const 5 388) := zS_iconst (by decide +kernel) rfl (by decide)
theorem zr_187_388 : zSnd 187 388 (o_cge 424 391) := zS_cge (by decide +kernel : decode (zmB 187) 388 = .ok (.if_icmp .ge 36, 3)) rfl (by decide)
theorem zr_187_391 : zSnd 187 391 (o_iload 12 393) := zS_iload (by decide +kernel) rfl
theorem zr_187_393 : zSnd 187 393 (o_iload 11 395) := zS_iload (by decide +kernel) rfl
theorem zr_187_395 : zSnd 187 395 (o_aload 2 396) := zS_aload_n (i := 2) (by decide +kernel) rfl rfl
theorem zr_187_396 : zSnd 187 396 (o_aload 3 397) := zS_aload_n (i := 3) (by decide +kernel) rfl rfl
theorem zr_187_397 : zSnd 187 397 (o_aload 4 399) := zS_aload (by decide +kernel) rfl
theorem zr_187_399 : zSnd 187 399 (o_aload 6 401) := zS_aload (by decide +kernel) rfl
theorem zr_187_401 : zSnd 187 401 (o_call 183 6 9 0 404) := zS_callS (idx := 99) (by decide +kernel) rfl zq_265 zq_266 (by decide +kernel) zMk_183 (by decide +kernel) (by decide +kernel) (by decide +kernel)
theorem zr_187_404 : zSnd 187 404 (o_aload 1 405) := zS_aload_n (i := 1) (by decide +kernel) rfl rfl
theorem zr_187_405 : zSnd 187 405 (o_iload 12 407) := zS_iload (by decide +kernel) rfl
theorem zr_187_407 : zSnd 187 407 (o_iload 11 409) := zS_iload (by decide +kernel) rfl
theorem zr_187_409 : zSnd 187 409 (o_callv 5 7 3 3 1 412) := zS_callV (n := 2) (idx := 121) (by decide +kernel) rfl rfl (by decide) rfl zq_282 zq_283 zq_284 (by decide +kernel) zMk_7 (by decide +kernel) (by decide +kernel) (by decide +kernel)
theorem zr_187_412 : zSnd 187 412 (o_const 3 413) := zS_iconst (by decide +kernel) rfl (by decide)
theorem zr_187_413 : zSnd 187 413 (o_aload 3 414) := zS_aload_n (i := 3) (by decide +kernel) rfl rfl
theorem zr_187_414 : zSnd 187 414 (o_aload 4 416) := zS_aload (by decide +kernel) rfl
theorem zr_187_416 : zSnd 187 416 (o_call 180 3 7 1 419) := zS_callS (idx := 72) (by decide +kernel) rfl zq_245 zq_246 (by decide +kernel) zMk_180 (by decide +kernel) (by decide +kernel) (by decide +kernel)
theorem zr_187_419 : zSnd 187 419 (o_ceq 682 422) := zS_ceq (by decide +kernel : decode (zmB 187) 419 = .ok (.if_icmp .eq 263, 3)) rfl (by decide)
theorem zr_187_422 : zSnd 187 422 (o_const 0 423) := zS_iconst (by decide +kernel) rfl (by decide)
theorem zr_187_423 : zSnd 187 423 (o_zret) := zS_zret (by decide +kernel) (by decide +kernel)
theorem zr_187_424 : zSnd 187 424 (o_iload 10 426) := zS_iload (by decide +kernel) rfl
theorem zr_187_426 : zSnd 187 426 (o_const 5 427) := zS_iconst (by decide +kernel) rfl (by decide)
theorem zr_187_427 : zSnd 187 427 (o_cne 521 430) := zS_cne (by decide +kernel : decode (zmB 187) 427 = .ok (.if_icmp .ne 94, 3)) rfl (by decide)
theorem zr_187_430 : zSnd 187 430 (o_const 0 431) := zS_iconst (by decide +kernel) rfl (by decide)
theorem zr_187_431 : zSnd 187 431 (o_istore 13 433) := zS_istore (by decide +kernel) rfl (by decide +kernel)
theorem zr_187_433 : zSnd 187 433 (o_const 0 434) := zS_iconst (by decide +kernel) rfl (by decide)
theorem zr_187_434 : zSnd 187 434 (o_istore 14 436) := zS_istore (by decide +kernel) rfl (by decide +kernel)
theorem zr_187_436 : zSnd 187 436 (o_iload 14 438) := zS_iload (by decide +kernel) rfl
theorem zr_187_438 : zSnd 187 438 (o_const 12 440) := zS_bipush (by decide +kernel) rfl (by decide) (by decide)
theorem zr_187_440 : zSnd 187 440 (o_cge 507 443) := zS_cge (by decide +kernel : decode (zmB 187) 440 = .ok (.if_icmp .ge 67, 3)) rfl (by decide)
theorem zr_187_443 : zSnd 187 443 (o_iload 13 445) := zS_iload (by decide +kernel) rfl
theorem zr_187_445 : zSnd 187 445 (o_iload 14 447) := zS_iload (by decide +kernel) rfl
theorem zr_187_447 : zSnd 187 447 (o_aload 3 448) := zS_aload_n (i := 3) (by decide +kernel) rfl rfl
theorem zr_187_448 : zSnd 187 448 (o_call 172 2 2 1 451) := zS_callS (idx := 20) (by decide +kernel) rfl zq_210 zq_211 (by decide +kernel) zMk_172 (by decide +kernel) (by decide +kernel) (by decide +kernel)
theorem zr_187_451 : zSnd 187 451 (o_ifeq 479 454) := zS_ifeq (by decide +kernel : decode (zmB 187) 451 = .ok (.ifCond .eq 28, 3)) rfl (by decide)
theorem zr_187_454 : zSnd 187 454 (o_aload 4 456) := zS_aload (by decide +kernel) rfl
theorem zr_187_456 : zSnd 187 456 (o_const 4 457) := zS_iconst (by decide +kernel) rfl (by decide)
theorem zr_187_457 : zSnd 187 457 (o_iload 14 459) := zS_iload (by decide +kernel) rfl
theorem zr_187_459 : zSnd 187 459 (o_imul 460) := zS_imul (by decide +kernel) rfl
theorem zr_187_460 : zSnd 187 460 (o_const 2 461) := zS_iconst (by decide +kernel) rfl (by decide)
theorem zr_187_461 : zSnd 187 461 (o_iadd 462) := zS_iadd (by decide +kernel) rfl
theorem zr_187_462 : zSnd 187 462 (o_iald 463) := zS_iald (by decide +kernel) rfl
theorem zr_187_463 : zSnd 187 463 (o_aload 4 465) := zS_aload (by decide +kernel) rfl
theorem zr_187_465 : zSnd 187 465 (o_const 4 466) := zS_iconst (by decide +kernel) rfl (by decide)
theorem zr_187_466 : zSnd 187 466 (o_iload 14 468) := zS_iload (by decide +kernel) rfl
theorem zr_187_468 : zSnd 187 468 (o_imul 469) := zS_imul (by decide +kernel) rfl
theorem zr_187_469 : zSnd 187 469 (o_const 3 470) := zS_iconst (by decide +kernel) rfl (by decide)
theorem zr_187_470 : zSnd 187 470 (o_iadd 471) := zS_iadd (by decide +kernel) rfl
theorem zr_187_471 : zSnd 187 471 (o_iald 472) := zS_iald (by decide +kernel) rfl
theorem zr_187_472 : zSnd 187 472 (o_ceq 479 475) := zS_ceq (by decide +kernel : decode (zmB 187) 472 = .ok (.if_icmp .eq 7, 3)) rfl (by decide)
theorem zr_187_475 : zSnd 187 475 (o_const 1 476) := zS_iconst (by decide +kernel) rfl (by decide)
theorem zr_187_476 : zSnd 187 476 (o_goto 480) := zS_goto (by decide +kernel : decode (zmB 187) 476 = .ok (.goto 4, 3)) (by decide)
theorem zr_187_479 : zSnd 187 479 (o_const 0 480) := zS_iconst (by decide +kernel) rfl (by decide)
theorem zr_187_480 : zSnd 187 480 (o_iadd 481) := zS_iadd (by decide +kernel) rfl
theorem zr_187_481 : zSnd 187 481 (o_istore 13 483) := zS_istore (by decide +kernel) rfl (by decide +kernel)
theorem zr_187_483 : zSnd 187 483 (o_aload 4 485) := zS_aload (by decide +kernel) rfl
theorem zr_187_485 : zSnd 187 485 (o_const 4 486) := zS_iconst (by decide +kernel) rfl (by decide)
theorem zr_187_486 : zSnd 187 486 (o_iload 14 488) := zS_iload (by decide +kernel) rfl
theorem zr_187_488 : zSnd 187 488 (o_imul 489) := zS_imul (by decide +kernel) rfl
theorem zr_187_489 : zSnd 187 489 (o_const 2 490) := zS_iconst (by decide +kernel) rfl (by decide)
theorem zr_187_490 : zSnd 187 490 (o_iadd 491) := zS_iadd (by decide +kernel) rfl
theorem zr_187_491 : zSnd 187 491 (o_aload 4 493) := zS_aload (by decide +kernel) rfl
theorem zr_187_493 : zSnd 187 493 (o_const 4 494) := zS_iconst (by decide +kernel) rfl (by decide)
theorem zr_187_494 : zSnd 187 494 (o_iload 14 496) := zS_iload (by decide +kernel) rfl
theorem zr_187_496 : zSnd 187 496 (o_imul 497) := zS_imul (by decide +kernel) rfl
theorem zr_187_497 : zSnd 187 497 (o_const 3 498) := zS_iconst (by decide +kernel) rfl (by decide)
theorem zr_187_498 : zSnd 187 498 (o_iadd 499) := zS_iadd (by decide +kernel) rfl
theorem zr_187_499 : zSnd 187 499 (o_iald 500) := zS_iald (by decide +kernel) rfl
theorem zr_187_500 : zSnd 187 500 (o_iast 501) := zS_iast (by decide +kernel) rfl
theorem zr_187_501 : zSnd 187 501 (o_iinc 14 1 504) := zS_iinc (by decide +kernel) rfl (by decide +kernel)
theorem zr_187_504 : zSnd 187 504 (o_goto 436) := zS_goto (by decide +kernel : decode (zmB 187) 504 = .ok (.goto (-68), 3)) (by decide)
theorem zr_187_507 : zSnd 187 507 (o_aload 1 508) := zS_aload_n (i := 1) (by decide +kernel) rfl rfl
theorem zr_187_508 : zSnd 187 508 (o_callv 5 8 1 1 1 511) := zS_callV (n := 0) (idx := 123) (by decide +kernel) rfl rfl (by decide) rfl zq_285 zq_286 zq_287 (by decide +kernel) zMk_8 (by decide +kernel) (by decide +kernel) (by decide +kernel)
theorem zr_187_511 : zSnd 187 511 (o_iload 13 513) := zS_iload (by decide +kernel) rfl
theorem zr_187_513 : zSnd 187 513 (o_ceq 518 516) := zS_ceq (by decide +kernel : decode (zmB 187) 513 = .ok (.if_icmp .eq 5, 3)) rfl (by decide)
theorem zr_187_516 : zSnd 187 516 (o_const 0 517) := zS_iconst (by decide +kernel) rfl (by decide)
theorem zr_187_517 : zSnd 187 517 (o_zret) := zS_zret (by decide +kernel) (by decide +kernel)
theorem zr_187_518 : zSnd 187 518 (o_goto 682) := zS_goto (by decide +kernel : decode (zmB 187) 518 = .ok (.goto 164, 3)) (by decide)
theorem zr_187_521 : zSnd 187 521 (o_iload 10 523) := zS_iload (by decide +kernel) rfl
theorem zr_187_523 : zSnd 187 523 (o_const 6 525) := zS_bipush (by decide +kernel) rfl (by decide) (by decide)
theorem zr_187_525 : zSnd 187 525 (o_cne 601 528) := zS_cne (by decide +kernel : decode (zmB 187) 525 = .ok (.if_icmp .ne 76, 3)) rfl (by decide)
theorem zr_187_528 : zSnd 187 528 (o_iload 9 530) := zS_iload (by decide +kernel) rfl
theorem zr_187_530 : zSnd 187 530 (o_const 3 531) := zS_iconst (by decide +kernel) rfl (by decide)
theorem zr_187_531 : zSnd 187 531 (o_call 171 2 2 1 534) := zS_callS (idx := 108) (by decide +kernel) rfl zq_268 zq_269 (by decide +kernel) zMk_171 (by decide +kernel) (by decide +kernel) (by decide +kernel)
theorem zr_187_534 : zSnd 187 534 (o_istore 13 536) := zS_istore (by decide +kernel) rfl (by decide +kernel)
theorem zr_187_536 : zSnd 187 536 (o_const 1 537) := zS_iconst (by decide +kernel) rfl (by decide)
theorem zr_187_537 : zSnd 187 537 (o_iload 9 539) := zS_iload (by decide +kernel) rfl
theorem zr_187_539 : zSnd 187 539 (o_const 2 540) := zS_iconst (by decide +kernel) rfl (by decide)
theorem zr_187_540 : zSnd 187 540 (o_ishr 541) := zS_ishr (by decide +kernel) rfl
theorem zr_187_541 : zSnd 187 541 (o_const 9 543) := zS_bipush (by decide +kernel) rfl (by decide) (by decide)
theorem zr_187_543 : zSnd 187 543 (o_call 171 2 2 1 546) := zS_callS (idx := 108) (by decide +kernel) rfl zq_268 zq_269 (by decide +kernel) zMk_171 (by decide +kernel) (by decide +kernel) (by decide +kernel)
theorem zr_187_546 : zSnd 187 546 (o_iadd 547) := zS_iadd (by decide +kernel) rfl
theorem zr_187_547 : zSnd 187 547 (o_istore 14 549) := zS_istore (by decide +kernel) rfl (by decide +kernel)
theorem zr_187_549 : zSnd 187 549 (o_aload 3 550) := zS_aload_n (i := 3) (by decide +kernel) rfl rfl
theorem zr_187_550 : zSnd 187 550 (o_const 3 551) := zS_iconst (by decide +kernel) rfl (by decide)
theorem zr_187_551 : zSnd 187 551 (o_iload 13 553) := zS_iload (by decide +kernel) rfl
theorem zr_187_553 : zSnd 187 553 (o_imul 554) := zS_imul (by decide +kernel) rfl
theorem zr_187_554 : zSnd 187 554 (o_const 1 555) := zS_iconst (by decide +kernel) rfl (by decide)
theorem zr_187_555 : zSnd 187 555 (o_iadd 556) := zS_iadd (by decide +kernel) rfl
theorem zr_187_556 : zSnd 187 556 (o_dup2 557) := zS_dup2 (by decide +kernel) rfl
theorem zr_187_557 : zSnd 187 557 (o_iald 558) := zS_iald (by decide +kernel) rfl
theorem zr_187_558 : zSnd 187 558 (o_iload 14 560) := zS_iload (by decide +kernel) rfl
theorem zr_187_560 : zSnd 187 560 (o_iadd 561) := zS_iadd (by decide +kernel) rfl
theorem zr_187_561 : zSnd 187 561 (o_iast 562) := zS_iast (by decide +kernel) rfl
theorem zr_187_562 : zSnd 187 562 (o_aload 2 563) := zS_aload_n (i := 2) (by decide +kernel) rfl rfl
theorem zr_187_563 : zSnd 187 563 (o_const 2 564) := zS_iconst (by decide +kernel) rfl (by decide)
theorem zr_187_564 : zSnd 187 564 (o_dup2 565) := zS_dup2 (by decide +kernel) rfl
theorem zr_187_565 : zSnd 187 565 (o_iald 566) := zS_iald (by decide +kernel) rfl
theorem zr_187_566 : zSnd 187 566 (o_iload 14 568) := zS_iload (by decide +kernel) rfl
theorem zr_187_568 : zSnd 187 568 (o_aload 3 569) := zS_aload_n (i := 3) (by decide +kernel) rfl rfl
theorem zr_187_569 : zSnd 187 569 (o_const 3 570) := zS_iconst (by decide +kernel) rfl (by decide)
theorem zr_187_570 : zSnd 187 570 (o_iload 13 572) := zS_iload (by decide +kernel) rfl
theorem zr_187_572 : zSnd 187 572 (o_imul 573) := zS_imul (by decide +kernel) rfl
theorem zr_187_573 : zSnd 187 573 (o_iald 574) := zS_iald (by decide +kernel) rfl
theorem zr_187_574 : zSnd 187 574 (o_imul 575) := zS_imul (by decide +kernel) rfl
theorem zr_187_575 : zSnd 187 575 (o_iadd 576) := zS_iadd (by decide +kernel) rfl
theorem zr_187_576 : zSnd 187 576 (o_iast 577) := zS_iast (by decide +kernel) rfl
theorem zr_187_577 : zSnd 187 577 (o_aload 1 578) := zS_aload_n (i := 1) (by decide +kernel) rfl rfl
theorem zr_187_578 : zSnd 187 578 (o_iload 13 580) := zS_iload (by decide +kernel) rfl
theorem zr_187_580 : zSnd 187 580 (o_iload 14 582) := zS_iload (by decide +kernel) rfl
theorem zr_187_582 : zSnd 187 582 (o_callv 5 9 3 3 1 585) := zS_callV (n := 2) (idx := 126) (by decide +kernel) rfl rfl (by decide) rfl zq_288 zq_289 zq_290 (by decide +kernel) zMk_9 (by decide +kernel) (by decide +kernel) (by decide +kernel)
theorem zr_187_585 : zSnd 187 585 (o_aload 3 586) := zS_aload_n (i := 3) (by decide +kernel) rfl rfl
theorem zr_187_586 : zSnd 187 586 (o_const 3 587) := zS_iconst (by decide +kernel) rfl (by decide)
theorem zr_187_587 : zSnd 187 587 (o_iload 13 589) := zS_iload (by decide +kernel) rfl
theorem zr_187_589 : zSnd 187 589 (o_imul 590) := zS_imul (by decide +kernel) rfl
theorem zr_187_590 : zSnd 187 590 (o_const 1 591) := zS_iconst (by decide +kernel) rfl (by decide)
theorem zr_187_591 : zSnd 187 591 (o_iadd 592) := zS_iadd (by decide +kernel) rfl
theorem zr_187_592 : zSnd 187 592 (o_iald 593) := zS_iald (by decide +kernel) rfl
theorem zr_187_593 : zSnd 187 593 (o_ceq 598 596) := zS_ceq (by decide +kernel : decode (zmB 187) 593 = .ok (.if_icmp .eq 5, 3)) rfl (by decide)
theorem zr_187_596 : zSnd 187 596 (o_const 0 597) := zS_iconst (by decide +kernel) rfl (by decide)
theorem zr_187_597 : zSnd 187 597 (o_zret) := zS_zret (by decide +kernel) (by decide +kernel)
theorem zr_187_598 : zSnd 187 598 (o_goto 682) := zS_goto (by decide +kernel : decode (zmB 187) 598 = .ok (.goto 84, 3)) (by decide)
theorem zr_187_601 : zSnd 187 601 (o_iload 9 603) := zS_iload (by decide +kernel) rfl
theorem zr_187_603 : zSnd 187 603 (o_const 12 605) := zS_bipush (by decide +kernel) rfl (by decide) (by decide)
theorem zr_187_605 : zSnd 187 605 (o_call 171 2 2 1 608) := zS_callS (idx := 108) (by decide +kernel) rfl zq_268 zq_269 (by decide +kernel) zMk_171 (by decide +kernel) (by decide +kernel) (by decide +kernel)
theorem zr_187_608 : zSnd 187 608 (o_istore 13 610) := zS_istore (by decide +kernel) rfl (by decide +kernel)
theorem zr_187_610 : zSnd 187 610 (o_iload 13 612) := zS_iload (by decide +kernel) rfl
theorem zr_187_612 : zSnd 187 612 (o_aload 3 613) := zS_aload_n (i := 3) (by decide +kernel) rfl rfl
theorem zr_187_613 : zSnd 187 613 (o_call 172 2 2 1 616) := zS_callS (idx := 20) (by decide +kernel) rfl zq_210 zq_211 (by decide +kernel) zMk_172 (by decide +kernel) (by decide +kernel) (by decide +kernel)
theorem zr_187_616 : zSnd 187 616 (o_ifeq 682 619) := zS_ifeq (by decide +kernel : decode (zmB 187) 616 = .ok (.ifCond .eq 66, 3)) rfl (by decide)
theorem zr_187_619 : zSnd 187 619 (o_aload 4 621) := zS_aload (by decide +kernel) rfl
theorem zr_187_621 : zSnd 187 621 (o_const 4 622) := zS_iconst (by decide +kernel) rfl (by decide)
theorem zr_187_622 : zSnd 187 622 (o_iload 13 624) := zS_iload (by decide +kernel) rfl
theorem zr_187_624 : zSnd 187 624 (o_imul 625) := zS_imul (by decide +kernel) rfl
theorem zr_187_625 : zSnd 187 625 (o_const 1 626) := zS_iconst (by decide +kernel) rfl (by decide)
theorem zr_187_626 : zSnd 187 626 (o_iadd 627) := zS_iadd (by decide +kernel) rfl
theorem zr_187_627 : zSnd 187 627 (o_iald 628) := zS_iald (by decide +kernel) rfl
theorem zr_187_628 : zSnd 187 628 (o_const 1 629) := zS_iconst (by decide +kernel) rfl (by decide)
theorem zr_187_629 : zSnd 187 629 (o_cle 682 632) := zS_cle (by decide +kernel : decode (zmB 187) 629 = .ok (.if_icmp .le 53, 3)) rfl (by decide)
theorem zr_187_632 : zSnd 187 632 (o_aload 4 634) := zS_aload (by decide +kernel) rfl
theorem zr_187_634 : zSnd 187 634 (o_const 4 635) := zS_iconst (by decide +kernel) rfl (by decide)
theorem zr_187_635 : zSnd 187 635 (o_iload 13 637) := zS_iload (by decide +kernel) rfl
theorem zr_187_637 : zSnd 187 637 (o_imul 638) := zS_imul (by decide +kernel) rfl
theorem zr_187_638 : zSnd 187 638 (o_const 1 639) := zS_iconst (by decide +kernel) rfl (by decide)
theorem zr_187_639 : zSnd 187 639 (o_iadd 640) := zS_iadd (by decide +kernel) rfl
theorem zr_187_640 : zSnd 187 640 (o_dup2 641) := zS_dup2 (by decide +kernel) rfl
theorem zr_187_641 : zSnd 187 641 (o_iald 642) := zS_iald (by decide +kernel) rfl
theorem zr_187_642 : zSnd 187 642 (o_const 1 643) := zS_iconst (by decide +kernel) rfl (by decide)
theorem zr_187_643 : zSnd 187 643 (o_isub 644) := zS_isub (by decide +kernel) rfl
theorem zr_187_644 : zSnd 187 644 (o_iast 645) := zS_iast (by decide +kernel) rfl
theorem zr_187_645 : zSnd 187 645 (o_aload 2 646) := zS_aload_n (i := 2) (by decide +kernel) rfl rfl
theorem zr_187_646 : zSnd 187 646 (o_const 1 647) := zS_iconst (by decide +kernel) rfl (by decide)
theorem zr_187_647 : zSnd 187 647 (o_const 0 648) := zS_iconst (by decide +kernel) rfl (by decide)
theorem zr_187_648 : zSnd 187 648 (o_iast 649) := zS_iast (by decide +kernel) rfl
theorem zr_187_649 : zSnd 187 649 (o_aload 2 650) := zS_aload_n (i := 2) (by decide +kernel) rfl rfl
theorem zr_187_650 : zSnd 187 650 (o_const 2 651) := zS_iconst (by decide +kernel) rfl (by decide)
theorem zr_187_651 : zSnd 187 651 (o_dup2 652) := zS_dup2 (by decide +kernel) rfl
theorem zr_187_652 : zSnd 187 652 (o_iald 653) := zS_iald (by decide +kernel) rfl
theorem zr_187_653 : zSnd 187 653 (o_const 3 654) := zS_iconst (by decide +kernel) rfl (by decide)
theorem zr_187_654 : zSnd 187 654 (o_iadd 655) := zS_iadd (by decide +kernel) rfl
theorem zr_187_655 : zSnd 187 655 (o_iast 656) := zS_iast (by decide +kernel) rfl
theorem zr_187_656 : zSnd 187 656 (o_aload 1 657) := zS_aload_n (i := 1) (by decide +kernel) rfl rfl
theorem zr_187_657 : zSnd 187 657 (o_iload 13 659) := zS_iload (by decide +kernel) rfl
theorem zr_187_659 : zSnd 187 659 (o_const 4 660) := zS_iconst (by decide +kernel) rfl (by decide)
theorem zr_187_660 : zSnd 187 660 (o_idiv 661) := zS_idiv (by decide +kernel) rfl
theorem zr_187_661 : zSnd 187 661 (o_iload 13 663) := zS_iload (by decide +kernel) rfl
theorem zr_187_663 : zSnd 187 663 (o_const 4 664) := zS_iconst (by decide +kernel) rfl (by decide)
theorem zr_187_664 : zSnd 187 664 (o_irem 665) := zS_irem (by decide +kernel) rfl
theorem zr_187_665 : zSnd 187 665 (o_callv 5 10 3 4 1 668) := zS_callV (n := 2) (idx := 129) (by decide +kernel) rfl rfl (by decide) rfl zq_291 zq_292 zq_293 (by decide +kernel) zMk_10 (by decide +kernel) (by decide +kernel) (by decide +kernel)
theorem zr_187_668 : zSnd 187 668 (o_aload 4 670) := zS_aload (by decide +kernel) rfl
theorem zr_187_670 : zSnd 187 670 (o_const 4 671) := zS_iconst (by decide +kernel) rfl (by decide)
theorem zr_187_671 : zSnd 187 671 (o_iload 13 673) := zS_iload (by decide +kernel) rfl
theorem zr_187_673 : zSnd 187 673 (o_imul 674) := zS_imul (by decide +kernel) rfl
theorem zr_187_674 : zSnd 187 674 (o_const 1 675) := zS_iconst (by decide +kernel) rfl (by decide)
theorem zr_187_675 : zSnd 187 675 (o_iadd 676) := zS_iadd (by decide +kernel) rfl
theorem zr_187_676 : zSnd 187 676 (o_iald 677) := zS_iald (by decide +kernel) rfl
theorem zr_187_677 : zSnd 187 677 (o_ceq 682 680) := zS_ceq (by decide +kernel : decode (zmB 187) 677 = .ok (.if_icmp .eq 5, 3)) rfl (by decide)
theorem zr_187_680 : zSnd 187 680 (o_const 0 681) := zS_iconst (by decide +kernel) rfl (by decide)
theorem zr_187_681 : zSnd 187 681 (o_zret) := zS_zret (by decide +kernel) (by decide +kernel)
theorem zr_187_682 : zSnd 187 682 (o_iload 9 684) := zS_iload (by decide +kernel) rfl
theorem zr_187_684 : zSnd 187 684 (o_const 6 686) := zS_bipush (by decide +kernel) rfl (by decide) (by decide)
theorem zr_187_686 : zSnd 187 686 (o_ishr 687) := zS_ishr (by decide +kernel) rfl
theorem zr_187_687 : zSnd 187 687 (o_const 2 688) := zS_iconst (by decide +kernel) rfl (by decide)
theorem zr_187_688 : zSnd 187 688 (o_call 171 2 2 1 691) := zS_callS (idx := 108) (by decide +kernel) rfl zq_268 zq_269 (by decide +kernel) zMk_171 (by decide +kernel) (by decide +kernel) (by decide +kernel)
theorem zr_187_691 : zSnd 187 691 (o_ifne 799 694) := zS_ifne (by decide +kernel : decode (zmB 187) 691 = .ok (.ifCond .ne 108, 3)) rfl (by decide)
theorem zr_187_694 : zSnd 187 694 (o_aload 2 695) := zS_aload_n (i := 2) (by decide +kernel) rfl rfl
theorem zr_187_695 : zSnd 187 695 (o_const 0 696) := zS_iconst (by decide +kernel) rfl (by decide)
theorem zr_187_696 : zSnd 187 696 (o_iald 697) := zS_iald (by decide +kernel) rfl
theorem zr_187_697 : zSnd 187 697 (o_const 3 698) := zS_iconst (by decide +kernel) rfl (by decide)
theorem zr_187_698 : zSnd 187 698 (o_cge 799 701) := zS_cge (by decide +kernel : decode (zmB 187) 698 = .ok (.if_icmp .ge 101, 3)) rfl (by decide)
theorem zr_187_701 : zSnd 187 701 (o_const 3 702) := zS_iconst (by decide +kernel) rfl (by decide)
theorem zr_187_702 : zSnd 187 702 (o_aload 2 703) := zS_aload_n (i := 2) (by decide +kernel) rfl rfl
theorem zr_187_703 : zSnd 187 703 (o_const 0 704) := zS_iconst (by decide +kernel) rfl (by decide)
theorem zr_187_704 : zSnd 187 704 (o_dup2 705) := zS_dup2 (by decide +kernel) rfl
theorem zr_187_705 : zSnd 187 705 (o_iald 706) := zS_iald (by decide +kernel) rfl
theorem zr_187_706 : zSnd 187 706 (o_dup_x2 707) := zS_dup_x2 (by decide +kernel) rfl
theorem zr_187_707 : zSnd 187 707 (o_const 1 708) := zS_iconst (by decide +kernel) rfl (by decide)
theorem zr_187_708 : zSnd 187 708 (o_iadd 709) := zS_iadd (by decide +kernel) rfl
theorem zr_187_709 : zSnd 187 709 (o_iast 710) := zS_iast (by decide +kernel) rfl
theorem zr_187_710 : zSnd 187 710 (o_imul 711) := zS_imul (by decide +kernel) rfl
theorem zr_187_711 : zSnd 187 711 (o_istore 13 713) := zS_istore (by decide +kernel) rfl (by decide +kernel)
theorem zr_187_713 : zSnd 187 713 (o_aload 6 715) := zS_aload (by decide +kernel) rfl
theorem zr_187_715 : zSnd 187 715 (o_iload 13 717) := zS_iload (by decide +kernel) rfl
theorem zr_187_717 : zSnd 187 717 (o_iload 9 719) := zS_iload (by decide +kernel) rfl
theorem zr_187_719 : zSnd 187 719 (o_const 7 721) := zS_bipush (by decide +kernel) rfl (by decide) (by decide)
theorem zr_187_721 : zSnd 187 721 (o_ishr 722) := zS_ishr (by decide +kernel) rfl
theorem zr_187_722 : zSnd 187 722 (o_const 3 723) := zS_iconst (by decide +kernel) rfl (by decide)
theorem zr_187_723 : zSnd 187 723 (o_call 171 2 2 1 726) := zS_callS (idx := 108) (by decide +kernel) rfl zq_268 zq_269 (by decide +kernel) zMk_171 (by decide +kernel) (by decide +kernel) (by decide +kernel)
theorem zr_187_726 : zSnd 187 726 (o_iast 727) := zS_iast (by decide +kernel) rfl
theorem zr_187_727 : zSnd 187 727 (o_aload 6 729) := zS_aload (by decide +kernel) rfl
theorem zr_187_729 : zSnd 187 729 (o_iload 13 731) := zS_iload (by decide +kernel) rfl
theorem zr_187_731 : zSnd 187 731 (o_const 1 732) := zS_iconst (by decide +kernel) rfl (by decide)
theorem zr_187_732 : zSnd 187 732 (o_iadd 733) := zS_iadd (by decide +kernel) rfl
theorem zr_187_733 : zSnd 187 733 (o_iload 9 735) := zS_iload (by decide +kernel) rfl
theorem zr_187_735 : zSnd 187 735 (o_const 9 737) := zS_bipush (by decide +kernel) rfl (by decide) (by decide)
theorem zr_187_737 : zSnd 187 737 (o_ishr 738) := zS_ishr (by decide +kernel) rfl
theorem zr_187_738 : zSnd 187 738 (o_const 50 740) := zS_bipush (by decide +kernel) rfl (by decide) (by decide)
theorem zr_187_740 : zSnd 187 740 (o_call 171 2 2 1 743) := zS_callS (idx := 108) (by decide +kernel) rfl zq_268 zq_269 (by decide +kernel) zMk_171 (by decide +kernel) (by decide +kernel) (by decide +kernel)
theorem zr_187_743 : zSnd 187 743 (o_iast 744) := zS_iast (by decide +kernel) rfl
theorem zr_187_744 : zSnd 187 744 (o_aload 6 746) := zS_aload (by decide +kernel) rfl
theorem zr_187_746 : zSnd 187 746 (o_iload 13 748) := zS_iload (by decide +kernel) rfl
theorem zr_187_748 : zSnd 187 748 (o_const 2 749) := zS_iconst (by decide +kernel) rfl (by decide)
theorem zr_187_749 : zSnd 187 749 (o_iadd 750) := zS_iadd (by decide +kernel) rfl
theorem zr_187_750 : zSnd 187 750 (o_const 1 751) := zS_iconst (by decide +kernel) rfl (by decide)
theorem zr_187_751 : zSnd 187 751 (o_iload 9 753) := zS_iload (by decide +kernel) rfl
theorem zr_187_753 : zSnd 187 753 (o_const 15 755) := zS_bipush (by decide +kernel) rfl (by decide) (by decide)
theorem zr_187_755 : zSnd 187 755 (o_ishr 756) := zS_ishr (by decide +kernel) rfl
theorem zr_187_756 : zSnd 187 756 (o_const 15 758) := zS_bipush (by decide +kernel) rfl (by decide) (by decide)
theorem zr_187_758 : zSnd 187 758 (o_call 171 2 2 1 761) := zS_callS (idx := 108) (by decide +kernel) rfl zq_268 zq_269 (by decide +kernel) zMk_171 (by decide +kernel) (by decide +kernel) (by decide +kernel)
theorem zr_187_761 : zSnd 187 761 (o_iadd 762) := zS_iadd (by decide +kernel) rfl
theorem zr_187_762 : zSnd 187 762 (o_iast 763) := zS_iast (by decide +kernel) rfl
theorem zr_187_763 : zSnd 187 763 (o_aload 1 764) := zS_aload_n (i := 1) (by decide +kernel) rfl rfl
theorem zr_187_764 : zSnd 187 764 (o_aload 6 766) := zS_aload (by decide +kernel) rfl
theorem zr_187_766 : zSnd 187 766 (o_iload 13 768) := zS_iload (by decide +kernel) rfl
theorem zr_187_768 : zSnd 187 768 (o_iald 769) := zS_iald (by decide +kernel) rfl
theorem zr_187_769 : zSnd 187 769 (o_aload 6 771) := zS_aload (by decide +kernel) rfl
theorem zr_187_771 : zSnd 187 771 (o_iload 13 773) := zS_iload (by decide +kernel) rfl
theorem zr_187_773 : zSnd 187 773 (o_const 1 774) := zS_iconst (by decide +kernel) rfl (by decide)
theorem zr_187_774 : zSnd 187 774 (o_iadd 775) := zS_iadd (by decide +kernel) rfl
theorem zr_187_775 : zSnd 187 775 (o_iald 776) := zS_iald (by decide +kernel) rfl
theorem zr_187_776 : zSnd 187 776 (o_aload 6 778) := zS_aload (by decide +kernel) rfl
theorem zr_187_778 : zSnd 187 778 (o_iload 13 780) := zS_iload (by decide +kernel) rfl
theorem zr_187_780 : zSnd 187 780 (o_const 2 781) := zS_iconst (by decide +kernel) rfl (by decide)
theorem zr_187_781 : zSnd 187 781 (o_iadd 782) := zS_iadd (by decide +kernel) rfl
theorem zr_187_782 : zSnd 187 782 (o_iald 783) := zS_iald (by decide +kernel) rfl
theorem zr_187_783 : zSnd 187 783 (o_callv 5 3 4 4 1 786) := zS_callV (n := 3) (idx := 132) (by decide +kernel) rfl rfl (by decide) rfl zq_294 zq_295 zq_296 (by decide +kernel) zMk_3 (by decide +kernel) (by decide +kernel) (by decide +kernel)
theorem zr_187_786 : zSnd 187 786 (o_aload 2 787) := zS_aload_n (i := 2) (by decide +kernel) rfl rfl
theorem zr_187_787 : zSnd 187 787 (o_const 0 788) := zS_iconst (by decide +kernel) rfl (by decide)
theorem zr_187_788 : zSnd 187 788 (o_iald 789) := zS_iald (by decide +kernel) rfl
theorem zr_187_789 : zSnd 187 789 (o_const 1 790) := zS_iconst (by decide +kernel) rfl (by decide)
theorem zr_187_790 : zSnd 187 790 (o_isub 791) := zS_isub (by decide +kernel) rfl
theorem zr_187_791 : zSnd 187 791 (o_ceq 796 794) := zS_ceq (by decide +kernel : decode (zmB 187) 791 = .ok (.if_icmp .eq 5, 3)) rfl (by decide)
theorem zr_187_794 : zSnd 187 794 (o_const 0 795) := zS_iconst (by decide +kernel) rfl (by decide)
theorem zr_187_795 : zSnd 187 795 (o_zret) := zS_zret (by decide +kernel) (by decide +kernel)
theorem zr_187_796 : zSnd 187 796 (o_goto 837) := zS_goto (by decide +kernel : decode (zmB 187) 796 = .ok (.goto 41, 3)) (by decide)
theorem zr_187_799 : zSnd 187 799 (o_iload 9 801) := zS_iload (by decide +kernel) rfl
theorem zr_187_801 : zSnd 187 801 (o_const 6 803) := zS_bipush (by decide +kernel) rfl (by decide) (by decide)
theorem zr_187_803 : zSnd 187 803 (o_ishr 804) := zS_ishr (by decide +kernel) rfl
theorem zr_187_804 : zSnd 187 804 (o_const 4 805) := zS_iconst (by decide +kernel) rfl (by decide)
theorem zr_187_805 : zSnd 187 805 (o_call 171 2 2 1 808) := zS_callS (idx := 108) (by decide +kernel) rfl zq_268 zq_269 (by decide +kernel) zMk_171 (by decide +kernel) (by decide +kernel) (by decide +kernel)
theorem zr_187_808 : zSnd 187 808 (o_const 1 809) := zS_iconst (by decide +kernel) rfl (by decide)
theorem zr_187_809 : zSnd 187 809 (o_cne 837 812) := zS_cne (by decide +kernel : decode (zmB 187) 809 = .ok (.if_icmp .ne 28, 3)) rfl (by decide)
theorem zr_187_812 : zSnd 187 812 (o_aload 2 813) := zS_aload_n (i := 2) (by decide +kernel) rfl rfl
theorem zr_187_813 : zSnd 187 813 (o_const 0 814) := zS_iconst (by decide +kernel) rfl (by decide)
theorem zr_187_814 : zSnd 187 814 (o_iald 815) := zS_iald (by decide +kernel) rfl
theorem zr_187_815 : zSnd 187 815 (o_ifle 837 818) := zS_ifle (by decide +kernel : decode (zmB 187) 815 = .ok (.ifCond .le 22, 3)) rfl (by decide)
theorem zr_187_818 : zSnd 187 818 (o_aload 2 819) := zS_aload_n (i := 2) (by decide +kernel) rfl rfl
theorem zr_187_819 : zSnd 187 819 (o_const 0 820) := zS_iconst (by decide +kernel) rfl (by decide)
theorem zr_187_820 : zSnd 187 820 (o_dup2 821) := zS_dup2 (by decide +kernel) rfl
theorem zr_187_821 : zSnd 187 821 (o_iald 822) := zS_iald (by decide +kernel) rfl
theorem zr_187_822 : zSnd 187 822 (o_const 1 823) := zS_iconst (by decide +kernel) rfl (by decide)
theorem zr_187_823 : zSnd 187 823 (o_isub 824) := zS_isub (by decide +kernel) rfl
theorem zr_187_824 : zSnd 187 824 (o_iast 825) := zS_iast (by decide +kernel) rfl
theorem zr_187_825 : zSnd 187 825 (o_aload 1 826) := zS_aload_n (i := 1) (by decide +kernel) rfl rfl
theorem zr_187_826 : zSnd 187 826 (o_callv 5 4 1 1 1 829) := zS_callV (n := 0) (idx := 135) (by decide +kernel) rfl rfl (by decide) rfl zq_297 zq_298 zq_299 (by decide +kernel) zMk_4 (by decide +kernel) (by decide +kernel) (by decide +kernel)
theorem zr_187_829 : zSnd 187 829 (o_aload 2 830) := zS_aload_n (i := 2) (by decide +kernel) rfl rfl
theorem zr_187_830 : zSnd 187 830 (o_const 0 831) := zS_iconst (by decide +kernel) rfl (by decide)
theorem zr_187_831 : zSnd 187 831 (o_iald 832) := zS_iald (by decide +kernel) rfl
theorem zr_187_832 : zSnd 187 832 (o_ceq 837 835) := zS_ceq (by decide +kernel : decode (zmB 187) 832 = .ok (.if_icmp .eq 5, 3)) rfl (by decide)
theorem zr_187_835 : zSnd 187 835 (o_const 0 836) := zS_iconst (by decide +kernel) rfl (by decide)
theorem zr_187_836 : zSnd 187 836 (o_zret) := zS_zret (by decide +kernel) (by decide +kernel)
theorem zr_187_837 : zSnd 187 837 (o_aload 1 838) := zS_aload_n (i := 1) (by decide +kernel) rfl rfl
theorem zr_187_838 : zSnd 187 838 (o_aload 2 839) := zS_aload_n (i := 2) (by decide +kernel) rfl rfl
theorem zr_187_839 : zSnd 187 839 (o_aload 3 840) := zS_aload_n (i := 3) (by decide +kernel) rfl rfl
theorem zr_187_840 : zSnd 187 840 (o_aload 4 842) := zS_aload (by decide +kernel) rfl
theorem zr_187_842 : zSnd 187 842 (o_aload 6 844) := zS_aload (by decide +kernel) rfl
theorem zr_187_844 : zSnd 187 844 (o_call 185 5 17 1 847) := zS_callS (idx := 138) (by decide +kernel) rfl zq_300 zq_301 (by decide +kernel) zMk_185 (by decide +kernel) (by decide +kernel) (by decide +kernel)
theorem zr_187_847 : zSnd 187 847 (o_ifeq 869 850) := zS_ifeq (by decide +kernel : decode (zmB 187) 847 = .ok (.ifCond .eq 22, 3)) rfl (by decide)
theorem zr_187_850 : zSnd 187 850 (o_aload 1 851) := zS_aload_n (i := 1) (by decide +kernel) rfl rfl
theorem zr_187_851 : zSnd 187 851 (o_iload 12 853) := zS_iload (by decide +kernel) rfl
theorem zr_187_853 : zSnd 187 853 (o_iload 11 855) := zS_iload (by decide +kernel) rfl
theorem zr_187_855 : zSnd 187 855 (o_aload 2 856) := zS_aload_n (i := 2) (by decide +kernel) rfl rfl
theorem zr_187_856 : zSnd 187 856 (o_aload 3 857) := zS_aload_n (i := 3) (by decide +kernel) rfl rfl
theorem zr_187_857 : zSnd 187 857 (o_aload 4 859) := zS_aload (by decide +kernel) rfl
theorem zr_187_859 : zSnd 187 859 (o_aload 6 861) := zS_aload (by decide +kernel) rfl
theorem zr_187_861 : zSnd 187 861 (o_aload 5 863) := zS_aload (by decide +kernel) rfl
theorem zr_187_863 : zSnd 187 863 (o_call 186 8 15 1 866) := zS_callS (idx := 142) (by decide +kernel) rfl zq_302 zq_303 (by decide +kernel) zMk_186 (by decide +kernel) (by decide +kernel) (by decide +kernel)
theorem zr_187_866 : zSnd 187 866 (o_ifne 871 869) := zS_ifne (by decide +kernel : decode (zmB 187) 866 = .ok (.ifCond .ne 5, 3)) rfl (by decide)
theorem zr_187_869 : zSnd 187 869 (o_const 0 870) := zS_iconst (by decide +kernel) rfl (by decide)
theorem zr_187_870 : zSnd 187 870 (o_zret) := zS_zret (by decide +kernel) (by decide +kernel)
theorem zr_187_871 : zSnd 187 871 (o_iinc 7 1 874) := zS_iinc (by decide +kernel) rfl (by decide +kernel)
theorem zr_187_874 : zSnd 187 874 (o_goto 243) := zS_goto (by decide +kernel : decode (zmB 187) 874 = .ok (.goto (-631), 3)) (by decide)
theorem zr_187_877 : zSnd 187 877 (o_const 1 878) := zS_iconst (by decide +kernel) rfl (by decide)
theorem zr_187_878 : zSnd 187 878 (o_zret) := zS_zret (by decide +kernel) (by decide +kernel)
theorem zT_187 (pc : Nat) : zSnd 187 pc (zc_187 pc) := by
  unfold zc_187
  exact (zSn_nd (zSn_nd (zSn_nd (zSn_nd (zSn_nd (zSn_nd (zSn_nd (zSn_nd (zSn_lf zr_187_35) (zSn_nd (zSn_lf zr_187_36) (zSn_lf zr_187_38))) (zSn_nd (zSn_nd (zSn_lf zr_187_40) (zSn_lf zr_187_41)) (zSn_nd (zSn_lf zr_187_44) (zSn_lf zr_187_50)))) (zSn_nd (zSn_nd (zSn_nd (zSn_lf zr_187_52) (zSn_lf zr_187_53)) (zSn_nd (zSn_lf zr_187_54) (zSn_lf zr_187_56))) (zSn_nd (zSn_nd (zSn_lf zr_187_57) (zSn_lf zr_187_58)) (zSn_nd (zSn_lf zr_187_60) (zSn_lf zr_187_62))))) (zSn_nd (zSn_nd (zSn_nd (zSn_nd (zSn_lf zr_187_65) (zSn_lf zr_187_66)) (zSn_nd (zSn_lf zr_187_67) (zSn_lf zr_187_68))) (zSn_nd (zSn_nd (zSn_lf zr_187_69) (zSn_lf zr_187_71)) (zSn_nd (zSn_lf zr_187_72) (zSn_lf zr_187_73)))) (zSn_nd (zSn_nd (zSn_nd (zSn_lf zr_187_74) (zSn_lf zr_187_76)) (zSn_nd (zSn_lf zr_187_77) (zSn_lf zr_187_78))) (zSn_nd (zSn_nd (zSn_lf zr_187_80) (zSn_lf zr_187_83)) (zSn_nd (zSn_lf zr_187_84) (zSn_lf zr_187_85)))))) (zSn_nd (zSn_nd (zSn_nd (zSn_nd (zSn_nd (zSn_lf zr_187_86) (zSn_lf zr_187_87)) (zSn_nd (zSn_lf zr_187_89) (zSn_lf zr_187_90))) (zSn_nd (zSn_nd (zSn_lf zr_187_91) (zSn_lf zr_187_92)) (zSn_nd (zSn_lf zr_187_93) (zSn_lf zr_187_95)))) (zSn_nd (zSn_nd (zSn_nd (zSn_lf zr_187_96) (zSn_lf zr_187_97)) (zSn_nd (zSn_lf zr_187_98) (zSn_lf zr_187_99))) (zSn_nd (zSn_nd (zSn_lf zr_187_102) (zSn_lf zr_187_104)) (zSn_nd (zSn_lf zr_187_107) (zSn_lf zr_187_108))))) (zSn_nd (zSn_nd (zSn_nd (zSn_nd (zSn_lf zr_187_109) (zSn_lf zr_187_111)) (zSn_nd (zSn_lf zr_187_113) (zSn_lf zr_187_114))) (zSn_nd (zSn_nd (zSn_lf zr_187_115) (zSn_lf zr_187_118)) (zSn_nd (zSn_lf zr_187_120) (zSn_lf zr_187_121)))) (zSn_nd (zSn_nd (zSn_nd (zSn_lf zr_187_123) (zSn_lf zr_187_125)) (zSn_nd (zSn_lf zr_187_127) (zSn_lf zr_187_130))) (zSn_nd (zSn_nd (zSn_lf zr_187_143) (zSn_lf zr_187_145)) (zSn_nd (zSn_lf zr_187_146) (zSn_lf zr_187_148))))))) (zSn_nd (zSn_nd (zSn_nd (zSn_nd (zSn_nd (zSn_lf zr_187_149) (zSn_nd (zSn_lf zr_187_151) (zSn_lf zr_187_152))) (zSn_nd (zSn_nd (zSn_lf zr_187_154) (zSn_lf zr_187_156)) (zSn_nd (zSn_lf zr_187_157) (zSn_lf zr_187_159)))) (zSn_nd (zSn_nd (zSn_nd (zSn_lf zr_187_160) (zSn_lf zr_187_162)) (zSn_nd (zSn_lf zr_187_163) (zSn_lf zr_187_166))) (zSn_nd (zSn_nd (zSn_lf zr_187_167) (zSn_lf zr_187_169)) (zSn_nd (zSn_lf zr_187_170) (zSn_lf zr_187_172))))) (zSn_nd (zSn_nd (zSn_nd (zSn_nd (zSn_lf zr_187_173) (zSn_lf zr_187_174)) (zSn_nd (zSn_lf zr_187_175) (zSn_lf zr_187_176))) (zSn_nd (zSn_nd (zSn_lf zr_187_178) (zSn_lf zr_187_179)) (zSn_nd (zSn_lf zr_187_180) (zSn_lf zr_187_182)))) (zSn_nd (zSn_nd (zSn_nd (zSn_lf zr_187_185) (zSn_lf zr_187_186)) (zSn_nd (zSn_lf zr_187_187) (zSn_lf zr_187_188))) (zSn_nd (zSn_nd (zSn_lf zr_187_189) (zSn_lf zr_187_191)) (zSn_nd (zSn_lf zr_187_192) (zSn_lf zr_187_193)))))) (zSn_nd (zSn_nd (zSn_nd (zSn_nd (zSn_nd (zSn_lf zr_187_194) (zSn_lf zr_187_195)) (zSn_nd (zSn_lf zr_187_196) (zSn_lf zr_187_197))) (zSn_nd (zSn_nd (zSn_lf zr_187_198) (zSn_lf zr_187_199)) (zSn_nd (zSn_lf zr_187_200) (zSn_lf zr_187_202)))) (zSn_nd (zSn_nd (zSn_nd (zSn_lf zr_187_204) (zSn_lf zr_187_205)) (zSn_nd (zSn_lf zr_187_207) (zSn_lf zr_187_208))) (zSn_nd (zSn_nd (zSn_lf zr_187_209) (zSn_lf zr_187_211)) (zSn_nd (zSn_lf zr_187_212) (zSn_lf zr_187_214))))) (zSn_nd (zSn_nd (zSn_nd (zSn_nd (zSn_lf zr_187_215) (zSn_lf zr_187_216)) (zSn_nd (zSn_lf zr_187_217) (zSn_lf zr_187_218))) (zSn_nd (zSn_nd (zSn_lf zr_187_221) (zSn_lf zr_187_223)) (zSn_nd (zSn_lf zr_187_226) (zSn_lf zr_187_227)))) (zSn_nd (zSn_nd (zSn_nd (zSn_lf zr_187_228) (zSn_lf zr_187_231)) (zSn_nd (zSn_lf zr_187_234) (zSn_lf zr_187_237))) (zSn_nd (zSn_nd (zSn_lf zr_187_240) (zSn_lf zr_187_241)) (zSn_nd (zSn_lf zr_187_243) (zSn_lf zr_187_245)))))))) (zSn_nd (zSn_nd (zSn_nd (zSn_nd (zSn_nd (zSn_nd (zSn_lf zr_187_247) (zSn_nd (zSn_lf zr_187_250) (zSn_lf zr_187_261))) (zSn_nd (zSn_nd (zSn_lf zr_187_263) (zSn_lf zr_187_274)) (zSn_nd (zSn_lf zr_187_276) (zSn_lf zr_187_278)))) (zSn_nd (zSn_nd (zSn_nd (zSn_lf zr_187_280) (zSn_lf zr_187_283)) (zSn_nd (zSn_lf zr_187_285) (zSn_lf zr_187_287))) (zSn_nd (zSn_nd (zSn_lf zr_187_288) (zSn_lf zr_187_289)) (zSn_nd (zSn_lf zr_187_290) (zSn_lf zr_187_293))))) (zSn_nd (zSn_nd (zSn_nd (zSn_nd (zSn_lf zr_187_295) (zSn_lf zr_187_297)) (zSn_nd (zSn_lf zr_187_298) (zSn_lf zr_187_299))) (zSn_nd (zSn_nd (zSn_lf zr_187_301) (zSn_lf zr_187_304)) (zSn_nd (zSn_lf zr_187_306) (zSn_lf zr_187_308)))) (zSn_nd (zSn_nd (zSn_nd (zSn_lf zr_187_309) (zSn_lf zr_187_312)) (zSn_nd (zSn_lf zr_187_313) (zSn_lf zr_187_314))) (zSn_nd (zSn_nd (zSn_lf zr_187_315) (zSn_lf zr_187_318)) (zSn_nd (zSn_lf zr_187_320) (zSn_lf zr_187_322)))))) (zSn_nd (zSn_nd (zSn_nd (zSn_nd (zSn_nd (zSn_lf zr_187_325) (zSn_lf zr_187_327)) (zSn_nd (zSn_lf zr_187_328) (zSn_lf zr_187_329))) (zSn_nd (zSn_nd (zSn_lf zr_187_331) (zSn_lf zr_187_333)) (zSn_nd (zSn_lf zr_187_336) (zSn_lf zr_187_337)))) (zSn_nd (zSn_nd (zSn_nd (zSn_lf zr_187_339) (zSn_lf zr_187_342)) (zSn_nd (zSn_lf zr_187_343) (zSn_lf zr_187_344))) (zSn_nd (zSn_nd (zSn_lf zr_187_346) (zSn_lf zr_187_349)) (zSn_nd (zSn_lf zr_187_352) (zSn_lf zr_187_353))))) (zSn_nd (zSn_nd (zSn_nd (zSn_nd (zSn_lf zr_187_354) (zSn_lf zr_187_356)) (zSn_nd (zSn_lf zr_187_357) (zSn_lf zr_187_360))) (zSn_nd (zSn_nd (zSn_lf zr_187_361) (zSn_lf zr_187_362)) (zSn_nd (zSn_lf zr_187_364) (zSn_lf zr_187_366)))) (zSn_nd (zSn_nd (zSn_nd (zSn_lf zr_187_369) (zSn_lf zr_187_370)) (zSn_nd (zSn_lf zr_187_373) (zSn_lf zr_187_374))) (zSn_nd (zSn_nd (zSn_lf zr_187_375) (zSn_lf zr_187_377)) (zSn_nd (zSn_lf zr_187_380) (zSn_lf zr_187_383))))))) (zSn_nd (zSn_nd (zSn_nd (zSn_nd (zSn_nd (zSn_lf zr_187_384) (zSn_nd (zSn_lf zr_187_385) (zSn_lf zr_187_387))) (zSn_nd (zSn_nd (zSn_lf zr_187_388) (zSn_lf zr_187_391)) (zSn_nd (zSn_lf zr_187_393) (zSn_lf zr_187_395)))) (zSn_nd (zSn_nd (zSn_nd (zSn_lf zr_187_396) (zSn_lf zr_187_397)) (zSn_nd (zSn_lf zr_187_399) (zSn_lf zr_187_401))) (zSn_nd (zSn_nd (zSn_lf zr_187_404) (zSn_lf zr_187_405)) (zSn_nd (zSn_lf zr_187_407) (zSn_lf zr_187_409))))) (zSn_nd (zSn_nd (zSn_nd (zSn_nd (zSn_lf zr_187_412) (zSn_lf zr_187_413)) (zSn_nd (zSn_lf zr_187_414) (zSn_lf zr_187_416))) (zSn_nd (zSn_nd (zSn_lf zr_187_419) (zSn_lf zr_187_422)) (zSn_nd (zSn_lf zr_187_423) (zSn_lf zr_187_424)))) (zSn_nd (zSn_nd (zSn_nd (zSn_lf zr_187_426) (zSn_lf zr_187_427)) (zSn_nd (zSn_lf zr_187_430) (zSn_lf zr_187_431))) (zSn_nd (zSn_nd (zSn_lf zr_187_433) (zSn_lf zr_187_434)) (zSn_nd (zSn_lf zr_187_436) (zSn_lf zr_187_438)))))) (zSn_nd (zSn_nd (zSn_nd (zSn_nd (zSn_nd (zSn_lf zr_187_440) (zSn_lf zr_187_443)) (zSn_nd (zSn_lf zr_187_445) (zSn_lf zr_187_447))) (zSn_nd (zSn_nd (zSn_lf zr_187_448) (zSn_lf zr_187_451)) (zSn_nd (zSn_lf zr_187_454) (zSn_lf zr_187_456)))) (zSn_nd (zSn_nd (zSn_nd (zSn_lf zr_187_457) (zSn_lf zr_187_459)) (zSn_nd (zSn_lf zr_187_460) (zSn_lf zr_187_461))) (zSn_nd (zSn_nd (zSn_lf zr_187_462) (zSn_lf zr_187_463)) (zSn_nd (zSn_lf zr_187_465) (zSn_lf zr_187_466))))) (zSn_nd (zSn_nd (zSn_nd (zSn_nd (zSn_lf zr_187_468) (zSn_lf zr_187_469)) (zSn_nd (zSn_lf zr_187_470) (zSn_lf zr_187_471))) (zSn_nd (zSn_nd (zSn_lf zr_187_472) (zSn_lf zr_187_475)) (zSn_nd (zSn_lf zr_187_476) (zSn_lf zr_187_479)))) (zSn_nd (zSn_nd (zSn_nd (zSn_lf zr_187_480) (zSn_lf zr_187_481)) (zSn_nd (zSn_lf zr_187_483) (zSn_lf zr_187_485))) (zSn_nd (zSn_nd (zSn_lf zr_187_486) (zSn_lf zr_187_488)) (zSn_nd (zSn_lf zr_187_489) (zSn_lf zr_187_490))))))))) (zSn_nd (zSn_nd (zSn_nd (zSn_nd (zSn_nd (zSn_nd (zSn_nd (zSn_lf zr_187_491) (zSn_nd (zSn_lf zr_187_493) (zSn_lf zr_187_494))) (zSn_nd (zSn_nd (zSn_lf zr_187_496) (zSn_lf zr_187_497)) (zSn_nd (zSn_lf zr_187_498) (zSn_lf zr_187_499)))) (zSn_nd (zSn_nd (zSn_nd (zSn_lf zr_187_500) (zSn_lf zr_187_501)) (zSn_nd (zSn_lf zr_187_504) (zSn_lf zr_187_507))) (zSn_nd (zSn_nd (zSn_lf zr_187_508) (zSn_lf zr_187_511)) (zSn_nd (zSn_lf zr_187_513) (zSn_lf zr_187_516))))) (zSn_nd (zSn_nd (zSn_nd (zSn_nd (zSn_lf zr_187_517) (zSn_lf zr_187_518)) (zSn_nd (zSn_lf zr_187_521) (zSn_lf zr_187_523))) (zSn_nd (zSn_nd (zSn_lf zr_187_525) (zSn_lf zr_187_528)) (zSn_nd (zSn_lf zr_187_530) (zSn_lf zr_187_531)))) (zSn_nd (zSn_nd (zSn_nd (zSn_lf zr_187_534) (zSn_lf zr_187_536)) (zSn_nd (zSn_lf zr_187_537) (zSn_lf zr_187_539))) (zSn_nd (zSn_nd (zSn_lf zr_187_540) (zSn_lf zr_187_541)) (zSn_nd (zSn_lf zr_187_543) (zSn_lf zr_187_546)))))) (zSn_nd (zSn_nd (zSn_nd (zSn_nd (zSn_nd (zSn_lf zr_187_547) (zSn_lf zr_187_549)) (zSn_nd (zSn_lf zr_187_550) (zSn_lf zr_187_551))) (zSn_nd (zSn_nd (zSn_lf zr_187_553) (zSn_lf zr_187_554)) (zSn_nd (zSn_lf zr_187_555) (zSn_lf zr_187_556)))) (zSn_nd (zSn_nd (zSn_nd (zSn_lf zr_187_557) (zSn_lf zr_187_558)) (zSn_nd (zSn_lf zr_187_560) (zSn_lf zr_187_561))) (zSn_nd (zSn_nd (zSn_lf zr_187_562) (zSn_lf zr_187_563)) (zSn_nd (zSn_lf zr_187_564) (zSn_lf zr_187_565))))) (zSn_nd (zSn_nd (zSn_nd (zSn_nd (zSn_lf zr_187_566) (zSn_lf zr_187_568)) (zSn_nd (zSn_lf zr_187_569) (zSn_lf zr_187_570))) (zSn_nd (zSn_nd (zSn_lf zr_187_572) (zSn_lf zr_187_573)) (zSn_nd (zSn_lf zr_187_574) (zSn_lf zr_187_575)))) (zSn_nd (zSn_nd (zSn_nd (zSn_lf zr_187_576) (zSn_lf zr_187_577)) (zSn_nd (zSn_lf zr_187_578) (zSn_lf zr_187_580))) (zSn_nd (zSn_nd (zSn_lf zr_187_582) (zSn_lf zr_187_585)) (zSn_nd (zSn_lf zr_187_586) (zSn_lf zr_187_587))))))) (zSn_nd (zSn_nd (zSn_nd (zSn_nd (zSn_nd (zSn_lf zr_187_589) (zSn_nd (zSn_lf zr_187_590) (zSn_lf zr_187_591))) (zSn_nd (zSn_nd (zSn_lf zr_187_592) (zSn_lf zr_187_593)) (zSn_nd (zSn_lf zr_187_596) (zSn_lf zr_187_597)))) (zSn_nd (zSn_nd (zSn_nd (zSn_lf zr_187_598) (zSn_lf zr_187_601)) (zSn_nd (zSn_lf zr_187_603) (zSn_lf zr_187_605))) (zSn_nd (zSn_nd (zSn_lf zr_187_608) (zSn_lf zr_187_610)) (zSn_nd (zSn_lf zr_187_612) (zSn_lf zr_187_613))))) (zSn_nd (zSn_nd (zSn_nd (zSn_nd (zSn_lf zr_187_616) (zSn_lf zr_187_619)) (zSn_nd (zSn_lf zr_187_621) (zSn_lf zr_187_622))) (zSn_nd (zSn_nd (zSn_lf zr_187_624) (zSn_lf zr_187_625)) (zSn_nd (zSn_lf zr_187_626) (zSn_lf zr_187_627)))) (zSn_nd (zSn_nd (zSn_nd (zSn_lf zr_187_628) (zSn_lf zr_187_629)) (zSn_nd (zSn_lf zr_187_632) (zSn_lf zr_187_634))) (zSn_nd (zSn_nd (zSn_lf zr_187_635) (zSn_lf zr_187_637)) (zSn_nd (zSn_lf zr_187_638) (zSn_lf zr_187_639)))))) (zSn_nd (zSn_nd (zSn_nd (zSn_nd (zSn_nd (zSn_lf zr_187_640) (zSn_lf zr_187_641)) (zSn_nd (zSn_lf zr_187_642) (zSn_lf zr_187_643))) (zSn_nd (zSn_nd (zSn_lf zr_187_644) (zSn_lf zr_187_645)) (zSn_nd (zSn_lf zr_187_646) (zSn_lf zr_187_647)))) (zSn_nd (zSn_nd (zSn_nd (zSn_lf zr_187_648) (zSn_lf zr_187_649)) (zSn_nd (zSn_lf zr_187_650) (zSn_lf zr_187_651))) (zSn_nd (zSn_nd (zSn_lf zr_187_652) (zSn_lf zr_187_653)) (zSn_nd (zSn_lf zr_187_654) (zSn_lf zr_187_655))))) (zSn_nd (zSn_nd (zSn_nd (zSn_nd (zSn_lf zr_187_656) (zSn_lf zr_187_657)) (zSn_nd (zSn_lf zr_187_659) (zSn_lf zr_187_660))) (zSn_nd (zSn_nd (zSn_lf zr_187_661) (zSn_lf zr_187_663)) (zSn_nd (zSn_lf zr_187_664) (zSn_lf zr_187_665)))) (zSn_nd (zSn_nd (zSn_nd (zSn_lf zr_187_668) (zSn_lf zr_187_670)) (zSn_nd (zSn_lf zr_187_671) (zSn_lf zr_187_673))) (zSn_nd (zSn_nd (zSn_lf zr_187_674) (zSn_lf zr_187_675)) (zSn_nd (zSn_lf zr_187_676) (zSn_lf zr_187_677)))))))) (zSn_nd (zSn_nd (zSn_nd (zSn_nd (zSn_nd (zSn_nd (zSn_lf zr_187_680) (zSn_nd (zSn_lf zr_187_681) (zSn_lf zr_187_682))) (zSn_nd (zSn_nd (zSn_lf zr_187_684) (zSn_lf zr_187_686)) (zSn_nd (zSn_lf zr_187_687) (zSn_lf zr_187_688)))) (zSn_nd (zSn_nd (zSn_nd (zSn_lf zr_187_691) (zSn_lf zr_187_694)) (zSn_nd (zSn_lf zr_187_695) (zSn_lf zr_187_696))) (zSn_nd (zSn_nd (zSn_lf zr_187_697) (zSn_lf zr_187_698)) (zSn_nd (zSn_lf zr_187_701) (zSn_lf zr_187_702))))) (zSn_nd (zSn_nd (zSn_nd (zSn_nd (zSn_lf zr_187_703) (zSn_lf zr_187_704)) (zSn_nd (zSn_lf zr_187_705) (zSn_lf zr_187_706))) (zSn_nd (zSn_nd (zSn_lf zr_187_707) (zSn_lf zr_187_708)) (zSn_nd (zSn_lf zr_187_709) (zSn_lf zr_187_710)))) (zSn_nd (zSn_nd (zSn_nd (zSn_lf zr_187_711) (zSn_lf zr_187_713)) (zSn_nd (zSn_lf zr_187_715) (zSn_lf zr_187_717))) (zSn_nd (zSn_nd (zSn_lf zr_187_719) (zSn_lf zr_187_721)) (zSn_nd (zSn_lf zr_187_722) (zSn_lf zr_187_723)))))) (zSn_nd (zSn_nd (zSn_nd (zSn_nd (zSn_nd (zSn_lf zr_187_726) (zSn_lf zr_187_727)) (zSn_nd (zSn_lf zr_187_729) (zSn_lf zr_187_731))) (zSn_nd (zSn_nd (zSn_lf zr_187_732) (zSn_lf zr_187_733)) (zSn_nd (zSn_lf zr_187_735) (zSn_lf zr_187_737)))) (zSn_nd (zSn_nd (zSn_nd (zSn_lf zr_187_738) (zSn_lf zr_187_740)) (zSn_nd (zSn_lf zr_187_743) (zSn_lf zr_187_744))) (zSn_nd (zSn_nd (zSn_lf zr_187_746) (zSn_lf zr_187_748)) (zSn_nd (zSn_lf zr_187_749) (zSn_lf zr_187_750))))) (zSn_nd (zSn_nd (zSn_nd (zSn_nd (zSn_lf zr_187_751) (zSn_lf zr_187_753)) (zSn_nd (zSn_lf zr_187_755) (zSn_lf zr_187_756))) (zSn_nd (zSn_nd (zSn_lf zr_187_758) (zSn_lf zr_187_761)) (zSn_nd (zSn_lf zr_187_762) (zSn_lf zr_187_763)))) (zSn_nd (zSn_nd (zSn_nd (zSn_lf zr_187_764) (zSn_lf zr_187_766)) (zSn_nd (zSn_lf zr_187_768) (zSn_lf zr_187_769))) (zSn_nd (zSn_nd (zSn_lf zr_187_771) (zSn_lf zr_187_773)) (zSn_nd (zSn_lf zr_187_774) (zSn_lf zr_187_775))))))) (zSn_nd (zSn_nd (zSn_nd (zSn_nd (zSn_nd (zSn_nd (zSn_lf zr_187_776) (zSn_lf zr_187_778)) (zSn_nd (zSn_lf zr_187_780) (zSn_lf zr_187_781))) (zSn_nd (zSn_nd (zSn_lf zr_187_782) (zSn_lf zr_187_783)) (zSn_nd (zSn_lf zr_187_786) (zSn_lf zr_187_787)))) (zSn_nd (zSn_nd (zSn_nd (zSn_lf zr_187_788) (zSn_lf zr_187_789)) (zSn_nd (zSn_lf zr_187_790) (zSn_lf zr_187_791))) (zSn_nd (zSn_nd (zSn_lf zr_187_794) (zSn_lf zr_187_795)) (zSn_nd (zSn_lf zr_187_796) (zSn_lf zr_187_799))))) (zSn_nd (zSn_nd (zSn_nd (zSn_nd (zSn_lf zr_187_801) (zSn_lf zr_187_803)) (zSn_nd (zSn_lf zr_187_804) (zSn_lf zr_187_805))) (zSn_nd (zSn_nd (zSn_lf zr_187_808) (zSn_lf zr_187_809)) (zSn_nd (zSn_lf zr_187_812) (zSn_lf zr_187_813)))) (zSn_nd (zSn_nd (zSn_nd (zSn_lf zr_187_814) (zSn_lf zr_187_815)) (zSn_nd (zSn_lf zr_187_818) (zSn_lf zr_187_819))) (zSn_nd (zSn_nd (zSn_lf zr_187_820) (zSn_lf zr_187_821)) (zSn_nd (zSn_lf zr_187_822) (zSn_lf zr_187_823)))))) (zSn_nd (zSn_nd (zSn_nd (zSn_nd (zSn_nd (zSn_lf zr_187_824) (zSn_lf zr_187_825)) (zSn_nd (zSn_lf zr_187_826) (zSn_lf zr_187_829))) (zSn_nd (zSn_nd (zSn_lf zr_187_830) (zSn_lf zr_187_831)) (zSn_nd (zSn_lf zr_187_832) (zSn_lf zr_187_835)))) (zSn_nd (zSn_nd (zSn_nd (zSn_lf zr_187_836) (zSn_lf zr_187_837)) (zSn_nd (zSn_lf zr_187_838) (zSn_lf zr_187_839))) (zSn_nd (zSn_nd (zSn_lf zr_187_840) (zSn_lf zr_187_842)) (zSn_nd (zSn_lf zr_187_844) (zSn_lf zr_187_847))))) (zSn_nd (zSn_nd (zSn_nd (zSn_nd (zSn_lf zr_187_850) (zSn_lf zr_187_851)) (zSn_nd (zSn_lf zr_187_853) (zSn_lf zr_187_855))) (zSn_nd (zSn_nd (zSn_lf zr_187_856) (zSn_lf zr_187_857)) (zSn_nd (zSn_lf zr_187_859) (zSn_lf zr_187_861)))) (zSn_nd (zSn_nd (zSn_nd (zSn_lf zr_187_863) (zSn_lf zr_187_866)) (zSn_nd (zSn_lf zr_187_869) (zSn_lf zr_187_870))) (zSn_nd (zSn_nd (zSn_lf zr_187_871) (zSn_lf zr_187_874)) (zSn_nd (zSn_lf zr_187_877) (zSn_lf zr_187_878))))))))))
