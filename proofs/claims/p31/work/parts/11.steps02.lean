/-! ===== 11: a row for each step (written by a program) ===== -/
theorem zr_153_0 : zSnd 153 0 (o_aload 0 1) := zS_aload_n (i := 0) (by decide +kernel) rfl rfl
theorem zr_153_1 : zSnd 153 1 (o_getf 4 2 4) := zS_getf (idx := 9) (by decide +kernel) rfl (by decide) rfl (by decide) rfl zin_4 zq_181
theorem zr_153_4 : zSnd 153 4 (o_aload 0 5) := zS_aload_n (i := 0) (by decide +kernel) rfl rfl
theorem zr_153_5 : zSnd 153 5 (o_getf 4 1 8) := zS_getf (idx := 46) (by decide +kernel) rfl (by decide) rfl (by decide) rfl zin_4 zq_177
theorem zr_153_8 : zSnd 153 8 (o_iload 1 9) := zS_iload_n (i := 1) (by decide +kernel) rfl rfl
theorem zr_153_9 : zSnd 153 9 (o_iast 10) := zS_iast (by decide +kernel) rfl
theorem zr_153_10 : zSnd 153 10 (o_aload 0 11) := zS_aload_n (i := 0) (by decide +kernel) rfl rfl
theorem zr_153_11 : zSnd 153 11 (o_getf 4 3 14) := zS_getf (idx := 15) (by decide +kernel) rfl (by decide) rfl (by decide) rfl zin_4 zq_183
theorem zr_153_14 : zSnd 153 14 (o_aload 0 15) := zS_aload_n (i := 0) (by decide +kernel) rfl rfl
theorem zr_153_15 : zSnd 153 15 (o_getf 4 1 18) := zS_getf (idx := 46) (by decide +kernel) rfl (by decide) rfl (by decide) rfl zin_4 zq_177
theorem zr_153_18 : zSnd 153 18 (o_iload 2 19) := zS_iload_n (i := 2) (by decide +kernel) rfl rfl
theorem zr_153_19 : zSnd 153 19 (o_iast 20) := zS_iast (by decide +kernel) rfl
theorem zr_153_20 : zSnd 153 20 (o_aload 0 21) := zS_aload_n (i := 0) (by decide +kernel) rfl rfl
theorem zr_153_21 : zSnd 153 21 (o_getf 4 4 24) := zS_getf (idx := 18) (by decide +kernel) rfl (by decide) rfl (by decide) rfl zin_4 zq_184
theorem zr_153_24 : zSnd 153 24 (o_aload 0 25) := zS_aload_n (i := 0) (by decide +kernel) rfl rfl
theorem zr_153_25 : zSnd 153 25 (o_getf 4 1 28) := zS_getf (idx := 46) (by decide +kernel) rfl (by decide) rfl (by decide) rfl zin_4 zq_177
theorem zr_153_28 : zSnd 153 28 (o_const 0 29) := zS_iconst (by decide +kernel) rfl (by decide)
theorem zr_153_29 : zSnd 153 29 (o_iast 30) := zS_iast (by decide +kernel) rfl
theorem zr_153_30 : zSnd 153 30 (o_aload 0 31) := zS_aload_n (i := 0) (by decide +kernel) rfl rfl
theorem zr_153_31 : zSnd 153 31 (o_const 0 32) := zS_iconst (by decide +kernel) rfl (by decide)
theorem zr_153_32 : zSnd 153 32 (o_putz 4 11 35) := zS_putz (idx := 52) (by decide +kernel) rfl (by decide) rfl (by decide) rfl zin_4 tyX3_ok nmX3 rfl (by decide +kernel) zq_179
theorem zr_153_35 : zSnd 153 35 (o_aload 0 36) := zS_aload_n (i := 0) (by decide +kernel) rfl rfl
theorem zr_153_36 : zSnd 153 36 (o_dup 37) := zS_dup (by decide +kernel) rfl
theorem zr_153_37 : zSnd 153 37 (o_getf 4 1 40) := zS_getf (idx := 46) (by decide +kernel) rfl (by decide) rfl (by decide) rfl zin_4 zq_177
theorem zr_153_40 : zSnd 153 40 (o_const 1 41) := zS_iconst (by decide +kernel) rfl (by decide)
theorem zr_153_41 : zSnd 153 41 (o_iadd 42) := zS_iadd (by decide +kernel) rfl
theorem zr_153_42 : zSnd 153 42 (o_putf 4 1 45) := zS_putf (idx := 46) (by decide +kernel) rfl (by decide) rfl (by decide) rfl zin_4 tyX3_ok nmX3 rfl (by decide +kernel) zq_177
theorem zr_153_45 : zSnd 153 45 (o_aload 0 46) := zS_aload_n (i := 0) (by decide +kernel) rfl rfl
theorem zr_153_46 : zSnd 153 46 (o_getf 4 1 49) := zS_getf (idx := 46) (by decide +kernel) rfl (by decide) rfl (by decide) rfl zin_4 zq_177
theorem zr_153_49 : zSnd 153 49 (o_const 1 50) := zS_iconst (by decide +kernel) rfl (by decide)
theorem zr_153_50 : zSnd 153 50 (o_isub 51) := zS_isub (by decide +kernel) rfl
theorem zr_153_51 : zSnd 153 51 (o_iret) := zS_iret (by decide +kernel) (by decide +kernel)
theorem zT_153 (pc : Nat) : zSnd 153 pc (zc_153 pc) := by
  unfold zc_153
  exact (zSn_nd (zSn_nd (zSn_nd (zSn_nd (zSn_nd (zSn_lf zr_153_0) (zSn_lf zr_153_1)) (zSn_nd (zSn_lf zr_153_4) (zSn_lf zr_153_5))) (zSn_nd (zSn_nd (zSn_lf zr_153_8) (zSn_lf zr_153_9)) (zSn_nd (zSn_lf zr_153_10) (zSn_lf zr_153_11)))) (zSn_nd (zSn_nd (zSn_nd (zSn_lf zr_153_14) (zSn_lf zr_153_15)) (zSn_nd (zSn_lf zr_153_18) (zSn_lf zr_153_19))) (zSn_nd (zSn_nd (zSn_lf zr_153_20) (zSn_lf zr_153_21)) (zSn_nd (zSn_lf zr_153_24) (zSn_lf zr_153_25))))) (zSn_nd (zSn_nd (zSn_nd (zSn_nd (zSn_lf zr_153_28) (zSn_lf zr_153_29)) (zSn_nd (zSn_lf zr_153_30) (zSn_lf zr_153_31))) (zSn_nd (zSn_nd (zSn_lf zr_153_32) (zSn_lf zr_153_35)) (zSn_nd (zSn_lf zr_153_36) (zSn_lf zr_153_37)))) (zSn_nd (zSn_nd (zSn_nd (zSn_lf zr_153_40) (zSn_lf zr_153_41)) (zSn_nd (zSn_lf zr_153_42) (zSn_lf zr_153_45))) (zSn_nd (zSn_nd (zSn_lf zr_153_46) (zSn_lf zr_153_49)) (zSn_nd (zSn_lf zr_153_50) (zSn_lf zr_153_51))))))
theorem zr_154_0 : zSnd 154 0 (o_iload 1 1) := zS_iload_n (i := 1) (by decide +kernel) rfl rfl
theorem zr_154_1 : zSnd 154 1 (o_aload 0 2) := zS_aload_n (i := 0) (by decide +kernel) rfl rfl
theorem zr_154_2 : zSnd 154 2 (o_getf 4 4 5) := zS_getf (idx := 18) (by decide +kernel) rfl (by decide) rfl (by decide) rfl zin_4 zq_184
theorem zr_154_5 : zSnd 154 5 (o_iload 1 6) := zS_iload_n (i := 1) (by decide +kernel) rfl rfl
theorem zr_154_6 : zSnd 154 6 (o_iald 7) := zS_iald (by decide +kernel) rfl
theorem zr_154_7 : zSnd 154 7 (o_call 35 2 2 1 10) := zS_callSN (idx := 69) (by decide +kernel) rfl zq_193 zq_62 (by decide +kernel) zMk_35 (by decide +kernel) (by decide +kernel) (by decide +kernel)
theorem zr_154_10 : zSnd 154 10 (o_istore 4 12) := zS_istore (by decide +kernel) rfl (by decide +kernel)
theorem zr_154_12 : zSnd 154 12 (o_aload 0 13) := zS_aload_n (i := 0) (by decide +kernel) rfl rfl
theorem zr_154_13 : zSnd 154 13 (o_getf 4 5 16) := zS_getf (idx := 21) (by decide +kernel) rfl (by decide) rfl (by decide) rfl zin_4 zq_185
theorem zr_154_16 : zSnd 154 16 (o_iload 4 18) := zS_iload (by decide +kernel) rfl
theorem zr_154_18 : zSnd 154 18 (o_iload 2 19) := zS_iload_n (i := 2) (by decide +kernel) rfl rfl
theorem zr_154_19 : zSnd 154 19 (o_iast 20) := zS_iast (by decide +kernel) rfl
theorem zr_154_20 : zSnd 154 20 (o_aload 0 21) := zS_aload_n (i := 0) (by decide +kernel) rfl rfl
theorem zr_154_21 : zSnd 154 21 (o_getf 4 6 24) := zS_getf (idx := 24) (by decide +kernel) rfl (by decide) rfl (by decide) rfl zin_4 zq_186
theorem zr_154_24 : zSnd 154 24 (o_iload 4 26) := zS_iload (by decide +kernel) rfl
theorem zr_154_26 : zSnd 154 26 (o_iload 3 27) := zS_iload_n (i := 3) (by decide +kernel) rfl rfl
theorem zr_154_27 : zSnd 154 27 (o_iast 28) := zS_iast (by decide +kernel) rfl
theorem zr_154_28 : zSnd 154 28 (o_aload 0 29) := zS_aload_n (i := 0) (by decide +kernel) rfl rfl
theorem zr_154_29 : zSnd 154 29 (o_const 0 30) := zS_iconst (by decide +kernel) rfl (by decide)
theorem zr_154_30 : zSnd 154 30 (o_putz 4 11 33) := zS_putz (idx := 52) (by decide +kernel) rfl (by decide) rfl (by decide) rfl zin_4 tyX3_ok nmX3 rfl (by decide +kernel) zq_179
theorem zr_154_33 : zSnd 154 33 (o_aload 0 34) := zS_aload_n (i := 0) (by decide +kernel) rfl rfl
theorem zr_154_34 : zSnd 154 34 (o_getf 4 4 37) := zS_getf (idx := 18) (by decide +kernel) rfl (by decide) rfl (by decide) rfl zin_4 zq_184
theorem zr_154_37 : zSnd 154 37 (o_iload 1 38) := zS_iload_n (i := 1) (by decide +kernel) rfl rfl
theorem zr_154_38 : zSnd 154 38 (o_dup2 39) := zS_dup2 (by decide +kernel) rfl
theorem zr_154_39 : zSnd 154 39 (o_iald 40) := zS_iald (by decide +kernel) rfl
theorem zr_154_40 : zSnd 154 40 (o_const 1 41) := zS_iconst (by decide +kernel) rfl (by decide)
theorem zr_154_41 : zSnd 154 41 (o_iadd 42) := zS_iadd (by decide +kernel) rfl
theorem zr_154_42 : zSnd 154 42 (o_iast 43) := zS_iast (by decide +kernel) rfl
theorem zr_154_43 : zSnd 154 43 (o_aload 0 44) := zS_aload_n (i := 0) (by decide +kernel) rfl rfl
theorem zr_154_44 : zSnd 154 44 (o_getf 4 4 47) := zS_getf (idx := 18) (by decide +kernel) rfl (by decide) rfl (by decide) rfl zin_4 zq_184
theorem zr_154_47 : zSnd 154 47 (o_iload 1 48) := zS_iload_n (i := 1) (by decide +kernel) rfl rfl
theorem zr_154_48 : zSnd 154 48 (o_iald 49) := zS_iald (by decide +kernel) rfl
theorem zr_154_49 : zSnd 154 49 (o_const 1 50) := zS_iconst (by decide +kernel) rfl (by decide)
theorem zr_154_50 : zSnd 154 50 (o_isub 51) := zS_isub (by decide +kernel) rfl
theorem zr_154_51 : zSnd 154 51 (o_iret) := zS_iret (by decide +kernel) (by decide +kernel)
theorem zT_154 (pc : Nat) : zSnd 154 pc (zc_154 pc) := by
  unfold zc_154
  exact (zSn_nd (zSn_nd (zSn_nd (zSn_nd (zSn_nd (zSn_lf zr_154_0) (zSn_lf zr_154_1)) (zSn_nd (zSn_lf zr_154_2) (zSn_lf zr_154_5))) (zSn_nd (zSn_nd (zSn_lf zr_154_6) (zSn_lf zr_154_7)) (zSn_nd (zSn_lf zr_154_10) (zSn_lf zr_154_12)))) (zSn_nd (zSn_nd (zSn_nd (zSn_lf zr_154_13) (zSn_lf zr_154_16)) (zSn_nd (zSn_lf zr_154_18) (zSn_lf zr_154_19))) (zSn_nd (zSn_nd (zSn_lf zr_154_20) (zSn_lf zr_154_21)) (zSn_nd (zSn_lf zr_154_24) (zSn_nd (zSn_lf zr_154_26) (zSn_lf zr_154_27)))))) (zSn_nd (zSn_nd (zSn_nd (zSn_nd (zSn_lf zr_154_28) (zSn_lf zr_154_29)) (zSn_nd (zSn_lf zr_154_30) (zSn_lf zr_154_33))) (zSn_nd (zSn_nd (zSn_lf zr_154_34) (zSn_lf zr_154_37)) (zSn_nd (zSn_lf zr_154_38) (zSn_nd (zSn_lf zr_154_39) (zSn_lf zr_154_40))))) (zSn_nd (zSn_nd (zSn_nd (zSn_lf zr_154_41) (zSn_lf zr_154_42)) (zSn_nd (zSn_lf zr_154_43) (zSn_lf zr_154_44))) (zSn_nd (zSn_nd (zSn_lf zr_154_47) (zSn_lf zr_154_48)) (zSn_nd (zSn_lf zr_154_49) (zSn_nd (zSn_lf zr_154_50) (zSn_lf zr_154_51)))))))
theorem zr_155_0 : zSnd 155 0 (o_aload 0 1) := zS_aload_n (i := 0) (by decide +kernel) rfl rfl
theorem zr_155_1 : zSnd 155 1 (o_getf 4 8 4) := zS_getf (idx := 27) (by decide +kernel) rfl (by decide) rfl (by decide) rfl zin_4 zq_187
theorem zr_155_4 : zSnd 155 4 (o_aload 0 5) := zS_aload_n (i := 0) (by decide +kernel) rfl rfl
theorem zr_155_5 : zSnd 155 5 (o_getf 4 7 8) := zS_getf (idx := 49) (by decide +kernel) rfl (by decide) rfl (by decide) rfl zin_4 zq_178
theorem zr_155_8 : zSnd 155 8 (o_iload 1 9) := zS_iload_n (i := 1) (by decide +kernel) rfl rfl
theorem zr_155_9 : zSnd 155 9 (o_iast 10) := zS_iast (by decide +kernel) rfl
theorem zr_155_10 : zSnd 155 10 (o_aload 0 11) := zS_aload_n (i := 0) (by decide +kernel) rfl rfl
theorem zr_155_11 : zSnd 155 11 (o_getf 4 9 14) := zS_getf (idx := 30) (by decide +kernel) rfl (by decide) rfl (by decide) rfl zin_4 zq_188
theorem zr_155_14 : zSnd 155 14 (o_aload 0 15) := zS_aload_n (i := 0) (by decide +kernel) rfl rfl
theorem zr_155_15 : zSnd 155 15 (o_getf 4 7 18) := zS_getf (idx := 49) (by decide +kernel) rfl (by decide) rfl (by decide) rfl zin_4 zq_178
theorem zr_155_18 : zSnd 155 18 (o_iload 2 19) := zS_iload_n (i := 2) (by decide +kernel) rfl rfl
theorem zr_155_19 : zSnd 155 19 (o_iast 20) := zS_iast (by decide +kernel) rfl
theorem zr_155_20 : zSnd 155 20 (o_aload 0 21) := zS_aload_n (i := 0) (by decide +kernel) rfl rfl
theorem zr_155_21 : zSnd 155 21 (o_getf 4 10 24) := zS_getf (idx := 33) (by decide +kernel) rfl (by decide) rfl (by decide) rfl zin_4 zq_189
theorem zr_155_24 : zSnd 155 24 (o_aload 0 25) := zS_aload_n (i := 0) (by decide +kernel) rfl rfl
theorem zr_155_25 : zSnd 155 25 (o_getf 4 7 28) := zS_getf (idx := 49) (by decide +kernel) rfl (by decide) rfl (by decide) rfl zin_4 zq_178
theorem zr_155_28 : zSnd 155 28 (o_iload 3 29) := zS_iload_n (i := 3) (by decide +kernel) rfl rfl
theorem zr_155_29 : zSnd 155 29 (o_iast 30) := zS_iast (by decide +kernel) rfl
theorem zr_155_30 : zSnd 155 30 (o_aload 0 31) := zS_aload_n (i := 0) (by decide +kernel) rfl rfl
theorem zr_155_31 : zSnd 155 31 (o_dup 32) := zS_dup (by decide +kernel) rfl
theorem zr_155_32 : zSnd 155 32 (o_getf 4 7 35) := zS_getf (idx := 49) (by decide +kernel) rfl (by decide) rfl (by decide) rfl zin_4 zq_178
theorem zr_155_35 : zSnd 155 35 (o_const 1 36) := zS_iconst (by decide +kernel) rfl (by decide)
theorem zr_155_36 : zSnd 155 36 (o_iadd 37) := zS_iadd (by decide +kernel) rfl
theorem zr_155_37 : zSnd 155 37 (o_putf 4 7 40) := zS_putf (idx := 49) (by decide +kernel) rfl (by decide) rfl (by decide) rfl zin_4 tyX3_ok nmX3 rfl (by decide +kernel) zq_178
theorem zr_155_40 : zSnd 155 40 (o_aload 0 41) := zS_aload_n (i := 0) (by decide +kernel) rfl rfl
theorem zr_155_41 : zSnd 155 41 (o_getf 4 7 44) := zS_getf (idx := 49) (by decide +kernel) rfl (by decide) rfl (by decide) rfl zin_4 zq_178
theorem zr_155_44 : zSnd 155 44 (o_const 1 45) := zS_iconst (by decide +kernel) rfl (by decide)
theorem zr_155_45 : zSnd 155 45 (o_isub 46) := zS_isub (by decide +kernel) rfl
theorem zr_155_46 : zSnd 155 46 (o_iret) := zS_iret (by decide +kernel) (by decide +kernel)
theorem zT_155 (pc : Nat) : zSnd 155 pc (zc_155 pc) := by
  unfold zc_155
  exact (zSn_nd (zSn_nd (zSn_nd (zSn_nd (zSn_lf zr_155_0) (zSn_nd (zSn_lf zr_155_1) (zSn_lf zr_155_4))) (zSn_nd (zSn_nd (zSn_lf zr_155_5) (zSn_lf zr_155_8)) (zSn_nd (zSn_lf zr_155_9) (zSn_lf zr_155_10)))) (zSn_nd (zSn_nd (zSn_lf zr_155_11) (zSn_nd (zSn_lf zr_155_14) (zSn_lf zr_155_15))) (zSn_nd (zSn_nd (zSn_lf zr_155_18) (zSn_lf zr_155_19)) (zSn_nd (zSn_lf zr_155_20) (zSn_lf zr_155_21))))) (zSn_nd (zSn_nd (zSn_nd (zSn_lf zr_155_24) (zSn_nd (zSn_lf zr_155_25) (zSn_lf zr_155_28))) (zSn_nd (zSn_nd (zSn_lf zr_155_29) (zSn_lf zr_155_30)) (zSn_nd (zSn_lf zr_155_31) (zSn_lf zr_155_32)))) (zSn_nd (zSn_nd (zSn_nd (zSn_lf zr_155_35) (zSn_lf zr_155_36)) (zSn_nd (zSn_lf zr_155_37) (zSn_lf zr_155_40))) (zSn_nd (zSn_nd (zSn_lf zr_155_41) (zSn_lf zr_155_44)) (zSn_nd (zSn_lf zr_155_45) (zSn_lf zr_155_46))))))
theorem zr_156_0 : zSnd 156 0 (o_const 0 1) := zS_iconst (by decide +kernel) rfl (by decide)
theorem zr_156_1 : zSnd 156 1 (o_istore 1 2) := zS_istore_n (i := 1) (by decide +kernel) rfl rfl (by decide +kernel)
theorem zr_156_2 : zSnd 156 2 (o_const 0 3) := zS_iconst (by decide +kernel) rfl (by decide)
theorem zr_156_3 : zSnd 156 3 (o_istore 2 4) := zS_istore_n (i := 2) (by decide +kernel) rfl rfl (by decide +kernel)
theorem zr_156_4 : zSnd 156 4 (o_iload 2 5) := zS_iload_n (i := 2) (by decide +kernel) rfl rfl
theorem zr_156_5 : zSnd 156 5 (o_aload 0 6) := zS_aload_n (i := 0) (by decide +kernel) rfl rfl
theorem zr_156_6 : zSnd 156 6 (o_getf 4 1 9) := zS_getf (idx := 46) (by decide +kernel) rfl (by decide) rfl (by decide) rfl zin_4 zq_177
theorem zr_156_9 : zSnd 156 9 (o_cge 27 12) := zS_cge (by decide +kernel : decode (zmB 156) 9 = .ok (.if_icmp .ge 18, 3)) rfl (by decide)
theorem zr_156_12 : zSnd 156 12 (o_iload 1 13) := zS_iload_n (i := 1) (by decide +kernel) rfl rfl
theorem zr_156_13 : zSnd 156 13 (o_aload 0 14) := zS_aload_n (i := 0) (by decide +kernel) rfl rfl
theorem zr_156_14 : zSnd 156 14 (o_getf 4 4 17) := zS_getf (idx := 18) (by decide +kernel) rfl (by decide) rfl (by decide) rfl zin_4 zq_184
theorem zr_156_17 : zSnd 156 17 (o_iload 2 18) := zS_iload_n (i := 2) (by decide +kernel) rfl rfl
theorem zr_156_18 : zSnd 156 18 (o_iald 19) := zS_iald (by decide +kernel) rfl
theorem zr_156_19 : zSnd 156 19 (o_iadd 20) := zS_iadd (by decide +kernel) rfl
theorem zr_156_20 : zSnd 156 20 (o_istore 1 21) := zS_istore_n (i := 1) (by decide +kernel) rfl rfl (by decide +kernel)
theorem zr_156_21 : zSnd 156 21 (o_iinc 2 1 24) := zS_iinc (by decide +kernel) rfl (by decide +kernel)
theorem zr_156_24 : zSnd 156 24 (o_goto 4) := zS_goto (by decide +kernel : decode (zmB 156) 24 = .ok (.goto (-20), 3)) (by decide)
theorem zr_156_27 : zSnd 156 27 (o_iload 1 28) := zS_iload_n (i := 1) (by decide +kernel) rfl rfl
theorem zr_156_28 : zSnd 156 28 (o_iret) := zS_iret (by decide +kernel) (by decide +kernel)
theorem zT_156 (pc : Nat) : zSnd 156 pc (zc_156 pc) := by
  unfold zc_156
  exact (zSn_nd (zSn_nd (zSn_nd (zSn_nd (zSn_lf zr_156_0) (zSn_lf zr_156_1)) (zSn_nd (zSn_lf zr_156_2) (zSn_lf zr_156_3))) (zSn_nd (zSn_nd (zSn_lf zr_156_4) (zSn_lf zr_156_5)) (zSn_nd (zSn_lf zr_156_6) (zSn_nd (zSn_lf zr_156_9) (zSn_lf zr_156_12))))) (zSn_nd (zSn_nd (zSn_nd (zSn_lf zr_156_13) (zSn_lf zr_156_14)) (zSn_nd (zSn_lf zr_156_17) (zSn_nd (zSn_lf zr_156_18) (zSn_lf zr_156_19)))) (zSn_nd (zSn_nd (zSn_lf zr_156_20) (zSn_lf zr_156_21)) (zSn_nd (zSn_lf zr_156_24) (zSn_nd (zSn_lf zr_156_27) (zSn_lf zr_156_28))))))
theorem zr_157_0 : zSnd 157 0 (o_const 0 1) := zS_iconst (by decide +kernel) rfl (by decide)
theorem zr_157_1 : zSnd 157 1 (o_istore 2 2) := zS_istore_n (i := 2) (by decide +kernel) rfl rfl (by decide +kernel)
theorem zr_157_2 : zSnd 157 2 (o_const 0 3) := zS_iconst (by decide +kernel) rfl (by decide)
theorem zr_157_3 : zSnd 157 3 (o_istore 3 4) := zS_istore_n (i := 3) (by decide +kernel) rfl rfl (by decide +kernel)
theorem zr_157_4 : zSnd 157 4 (o_iload 3 5) := zS_iload_n (i := 3) (by decide +kernel) rfl rfl
theorem zr_157_5 : zSnd 157 5 (o_aload 0 6) := zS_aload_n (i := 0) (by decide +kernel) rfl rfl
theorem zr_157_6 : zSnd 157 6 (o_getf 4 4 9) := zS_getf (idx := 18) (by decide +kernel) rfl (by decide) rfl (by decide) rfl zin_4 zq_184
theorem zr_157_9 : zSnd 157 9 (o_iload 1 10) := zS_iload_n (i := 1) (by decide +kernel) rfl rfl
theorem zr_157_10 : zSnd 157 10 (o_iald 11) := zS_iald (by decide +kernel) rfl
theorem zr_157_11 : zSnd 157 11 (o_cge 33 14) := zS_cge (by decide +kernel : decode (zmB 157) 11 = .ok (.if_icmp .ge 22, 3)) rfl (by decide)
theorem zr_157_14 : zSnd 157 14 (o_iload 2 15) := zS_iload_n (i := 2) (by decide +kernel) rfl rfl
theorem zr_157_15 : zSnd 157 15 (o_aload 0 16) := zS_aload_n (i := 0) (by decide +kernel) rfl rfl
theorem zr_157_16 : zSnd 157 16 (o_getf 4 6 19) := zS_getf (idx := 24) (by decide +kernel) rfl (by decide) rfl (by decide) rfl zin_4 zq_186
theorem zr_157_19 : zSnd 157 19 (o_iload 1 20) := zS_iload_n (i := 1) (by decide +kernel) rfl rfl
theorem zr_157_20 : zSnd 157 20 (o_iload 3 21) := zS_iload_n (i := 3) (by decide +kernel) rfl rfl
theorem zr_157_21 : zSnd 157 21 (o_call 35 2 2 1 24) := zS_callSN (idx := 69) (by decide +kernel) rfl zq_193 zq_62 (by decide +kernel) zMk_35 (by decide +kernel) (by decide +kernel) (by decide +kernel)
theorem zr_157_24 : zSnd 157 24 (o_iald 25) := zS_iald (by decide +kernel) rfl
theorem zr_157_25 : zSnd 157 25 (o_iadd 26) := zS_iadd (by decide +kernel) rfl
theorem zr_157_26 : zSnd 157 26 (o_istore 2 27) := zS_istore_n (i := 2) (by decide +kernel) rfl rfl (by decide +kernel)
theorem zr_157_27 : zSnd 157 27 (o_iinc 3 1 30) := zS_iinc (by decide +kernel) rfl (by decide +kernel)
theorem zr_157_30 : zSnd 157 30 (o_goto 4) := zS_goto (by decide +kernel : decode (zmB 157) 30 = .ok (.goto (-26), 3)) (by decide)
theorem zr_157_33 : zSnd 157 33 (o_iload 2 34) := zS_iload_n (i := 2) (by decide +kernel) rfl rfl
theorem zr_157_34 : zSnd 157 34 (o_iret) := zS_iret (by decide +kernel) (by decide +kernel)
theorem zT_157 (pc : Nat) : zSnd 157 pc (zc_157 pc) := by
  unfold zc_157
  exact (zSn_nd (zSn_nd (zSn_nd (zSn_nd (zSn_lf zr_157_0) (zSn_lf zr_157_1)) (zSn_nd (zSn_lf zr_157_2) (zSn_nd (zSn_lf zr_157_3) (zSn_lf zr_157_4)))) (zSn_nd (zSn_nd (zSn_lf zr_157_5) (zSn_nd (zSn_lf zr_157_6) (zSn_lf zr_157_9))) (zSn_nd (zSn_lf zr_157_10) (zSn_nd (zSn_lf zr_157_11) (zSn_lf zr_157_14))))) (zSn_nd (zSn_nd (zSn_nd (zSn_lf zr_157_15) (zSn_nd (zSn_lf zr_157_16) (zSn_lf zr_157_19))) (zSn_nd (zSn_lf zr_157_20) (zSn_nd (zSn_lf zr_157_21) (zSn_lf zr_157_24)))) (zSn_nd (zSn_nd (zSn_lf zr_157_25) (zSn_nd (zSn_lf zr_157_26) (zSn_lf zr_157_27))) (zSn_nd (zSn_lf zr_157_30) (zSn_nd (zSn_lf zr_157_33) (zSn_lf zr_157_34))))))
theorem zr_158_0 : zSnd 158 0 (o_const 0 1) := zS_iconst (by decide +kernel) rfl (by decide)
theorem zr_158_1 : zSnd 158 1 (o_istore 1 2) := zS_istore_n (i := 1) (by decide +kernel) rfl rfl (by decide +kernel)
theorem zr_158_2 : zSnd 158 2 (o_const 0 3) := zS_iconst (by decide +kernel) rfl (by decide)
theorem zr_158_3 : zSnd 158 3 (o_istore 2 4) := zS_istore_n (i := 2) (by decide +kernel) rfl rfl (by decide +kernel)
theorem zr_158_4 : zSnd 158 4 (o_iload 2 5) := zS_iload_n (i := 2) (by decide +kernel) rfl rfl
theorem zr_158_5 : zSnd 158 5 (o_aload 0 6) := zS_aload_n (i := 0) (by decide +kernel) rfl rfl
theorem zr_158_6 : zSnd 158 6 (o_getf 4 1 9) := zS_getf (idx := 46) (by decide +kernel) rfl (by decide) rfl (by decide) rfl zin_4 zq_177
theorem zr_158_9 : zSnd 158 9 (o_cge 26 12) := zS_cge (by decide +kernel : decode (zmB 158) 9 = .ok (.if_icmp .ge 17, 3)) rfl (by decide)
theorem zr_158_12 : zSnd 158 12 (o_iload 1 13) := zS_iload_n (i := 1) (by decide +kernel) rfl rfl
theorem zr_158_13 : zSnd 158 13 (o_aload 0 14) := zS_aload_n (i := 0) (by decide +kernel) rfl rfl
theorem zr_158_14 : zSnd 158 14 (o_iload 2 15) := zS_iload_n (i := 2) (by decide +kernel) rfl rfl
theorem zr_158_15 : zSnd 158 15 (o_callv 4 157 2 4 1 18) := zS_callV (n := 1) (idx := 73) (by decide +kernel) rfl rfl (by decide) rfl zq_194 zq_66 zq_67 (by decide +kernel) zMk_157 (by decide +kernel) (by decide +kernel) (by decide +kernel)
theorem zr_158_18 : zSnd 158 18 (o_iadd 19) := zS_iadd (by decide +kernel) rfl
theorem zr_158_19 : zSnd 158 19 (o_istore 1 20) := zS_istore_n (i := 1) (by decide +kernel) rfl rfl (by decide +kernel)
theorem zr_158_20 : zSnd 158 20 (o_iinc 2 1 23) := zS_iinc (by decide +kernel) rfl (by decide +kernel)
theorem zr_158_23 : zSnd 158 23 (o_goto 4) := zS_goto (by decide +kernel : decode (zmB 158) 23 = .ok (.goto (-19), 3)) (by decide)
theorem zr_158_26 : zSnd 158 26 (o_iload 1 27) := zS_iload_n (i := 1) (by decide +kernel) rfl rfl
theorem zr_158_27 : zSnd 158 27 (o_iret) := zS_iret (by decide +kernel) (by decide +kernel)
theorem zT_158 (pc : Nat) : zSnd 158 pc (zc_158 pc) := by
  unfold zc_158
  exact (zSn_nd (zSn_nd (zSn_nd (zSn_nd (zSn_lf zr_158_0) (zSn_lf zr_158_1)) (zSn_nd (zSn_lf zr_158_2) (zSn_lf zr_158_3))) (zSn_nd (zSn_nd (zSn_lf zr_158_4) (zSn_lf zr_158_5)) (zSn_nd (zSn_lf zr_158_6) (zSn_nd (zSn_lf zr_158_9) (zSn_lf zr_158_12))))) (zSn_nd (zSn_nd (zSn_nd (zSn_lf zr_158_13) (zSn_lf zr_158_14)) (zSn_nd (zSn_lf zr_158_15) (zSn_lf zr_158_18))) (zSn_nd (zSn_nd (zSn_lf zr_158_19) (zSn_lf zr_158_20)) (zSn_nd (zSn_lf zr_158_23) (zSn_nd (zSn_lf zr_158_26) (zSn_lf zr_158_27))))))
theorem zr_159_0 : zSnd 159 0 (o_aload 0 1) := zS_aload_n (i := 0) (by decide +kernel) rfl rfl
theorem zr_159_1 : zSnd 159 1 (o_getf 4 4 4) := zS_getf (idx := 18) (by decide +kernel) rfl (by decide) rfl (by decide) rfl zin_4 zq_184
theorem zr_159_4 : zSnd 159 4 (o_iload 1 5) := zS_iload_n (i := 1) (by decide +kernel) rfl rfl
theorem zr_159_5 : zSnd 159 5 (o_iald 6) := zS_iald (by decide +kernel) rfl
theorem zr_159_6 : zSnd 159 6 (o_ifne 11 9) := zS_ifne (by decide +kernel : decode (zmB 159) 6 = .ok (.ifCond .ne 5, 3)) rfl (by decide)
theorem zr_159_9 : zSnd 159 9 (o_const 0 10) := zS_iconst (by decide +kernel) rfl (by decide)
theorem zr_159_10 : zSnd 159 10 (o_iret) := zS_iret (by decide +kernel) (by decide +kernel)
theorem zr_159_11 : zSnd 159 11 (o_iload 1 12) := zS_iload_n (i := 1) (by decide +kernel) rfl rfl
theorem zr_159_12 : zSnd 159 12 (o_aload 0 13) := zS_aload_n (i := 0) (by decide +kernel) rfl rfl
theorem zr_159_13 : zSnd 159 13 (o_getf 4 4 16) := zS_getf (idx := 18) (by decide +kernel) rfl (by decide) rfl (by decide) rfl zin_4 zq_184
theorem zr_159_16 : zSnd 159 16 (o_iload 1 17) := zS_iload_n (i := 1) (by decide +kernel) rfl rfl
theorem zr_159_17 : zSnd 159 17 (o_iald 18) := zS_iald (by decide +kernel) rfl
theorem zr_159_18 : zSnd 159 18 (o_const 1 19) := zS_iconst (by decide +kernel) rfl (by decide)
theorem zr_159_19 : zSnd 159 19 (o_isub 20) := zS_isub (by decide +kernel) rfl
theorem zr_159_20 : zSnd 159 20 (o_call 35 2 2 1 23) := zS_callSN (idx := 69) (by decide +kernel) rfl zq_193 zq_62 (by decide +kernel) zMk_35 (by decide +kernel) (by decide +kernel) (by decide +kernel)
theorem zr_159_23 : zSnd 159 23 (o_istore 3 24) := zS_istore_n (i := 3) (by decide +kernel) rfl rfl (by decide +kernel)
theorem zr_159_24 : zSnd 159 24 (o_aload 2 25) := zS_aload_n (i := 2) (by decide +kernel) rfl rfl
theorem zr_159_25 : zSnd 159 25 (o_iload 3 26) := zS_iload_n (i := 3) (by decide +kernel) rfl rfl
theorem zr_159_26 : zSnd 159 26 (o_iald 27) := zS_iald (by decide +kernel) rfl
theorem zr_159_27 : zSnd 159 27 (o_aload 0 28) := zS_aload_n (i := 0) (by decide +kernel) rfl rfl
theorem zr_159_28 : zSnd 159 28 (o_getf 4 6 31) := zS_getf (idx := 24) (by decide +kernel) rfl (by decide) rfl (by decide) rfl zin_4 zq_186
theorem zr_159_31 : zSnd 159 31 (o_iload 3 32) := zS_iload_n (i := 3) (by decide +kernel) rfl rfl
theorem zr_159_32 : zSnd 159 32 (o_iald 33) := zS_iald (by decide +kernel) rfl
theorem zr_159_33 : zSnd 159 33 (o_iadd 34) := zS_iadd (by decide +kernel) rfl
theorem zr_159_34 : zSnd 159 34 (o_iret) := zS_iret (by decide +kernel) (by decide +kernel)
theorem zT_159 (pc : Nat) : zSnd 159 pc (zc_159 pc) := by
  unfold zc_159
  exact (zSn_nd (zSn_nd (zSn_nd (zSn_nd (zSn_lf zr_159_0) (zSn_nd (zSn_lf zr_159_1) (zSn_lf zr_159_4))) (zSn_nd (zSn_lf zr_159_5) (zSn_nd (zSn_lf zr_159_6) (zSn_lf zr_159_9)))) (zSn_nd (zSn_nd (zSn_lf zr_159_10) (zSn_nd (zSn_lf zr_159_11) (zSn_lf zr_159_12))) (zSn_nd (zSn_lf zr_159_13) (zSn_nd (zSn_lf zr_159_16) (zSn_lf zr_159_17))))) (zSn_nd (zSn_nd (zSn_nd (zSn_lf zr_159_18) (zSn_nd (zSn_lf zr_159_19) (zSn_lf zr_159_20))) (zSn_nd (zSn_lf zr_159_23) (zSn_nd (zSn_lf zr_159_24) (zSn_lf zr_159_25)))) (zSn_nd (zSn_nd (zSn_lf zr_159_26) (zSn_nd (zSn_lf zr_159_27) (zSn_lf zr_159_28))) (zSn_nd (zSn_nd (zSn_lf zr_159_31) (zSn_lf zr_159_32)) (zSn_nd (zSn_lf zr_159_33) (zSn_lf zr_159_34))))))
theorem zr_160_0 : zSnd 160 0 (o_const 0 1) := zS_iconst (by decide +kernel) rfl (by decide)
theorem zr_160_1 : zSnd 160 1 (o_aload 0 2) := zS_aload_n (i := 0) (by decide +kernel) rfl rfl
theorem zr_160_2 : zSnd 160 2 (o_iload 1 3) := zS_iload_n (i := 1) (by decide +kernel) rfl rfl
theorem zr_160_3 : zSnd 160 3 (o_aload 2 4) := zS_aload_n (i := 2) (by decide +kernel) rfl rfl
theorem zr_160_4 : zSnd 160 4 (o_callv 4 159 3 4 1 7) := zS_callV (n := 2) (idx := 77) (by decide +kernel) rfl rfl (by decide) rfl zq_195 zq_69 zq_70 (by decide +kernel) zMk_159 (by decide +kernel) (by decide +kernel) (by decide +kernel)
theorem zr_160_7 : zSnd 160 7 (o_aload 0 8) := zS_aload_n (i := 0) (by decide +kernel) rfl rfl
theorem zr_160_8 : zSnd 160 8 (o_getf 4 3 11) := zS_getf (idx := 15) (by decide +kernel) rfl (by decide) rfl (by decide) rfl zin_4 zq_183
theorem zr_160_11 : zSnd 160 11 (o_iload 1 12) := zS_iload_n (i := 1) (by decide +kernel) rfl rfl
theorem zr_160_12 : zSnd 160 12 (o_iald 13) := zS_iald (by decide +kernel) rfl
theorem zr_160_13 : zSnd 160 13 (o_isub 14) := zS_isub (by decide +kernel) rfl
theorem zr_160_14 : zSnd 160 14 (o_max 17) := zS_max (idx := 81) (by decide +kernel) rfl zq_196 zq_171 zq_106 zq_172 (by decide +kernel)
theorem zr_160_17 : zSnd 160 17 (o_iret) := zS_iret (by decide +kernel) (by decide +kernel)
theorem zT_160 (pc : Nat) : zSnd 160 pc (zc_160 pc) := by
  unfold zc_160
  exact (zSn_nd (zSn_nd (zSn_nd (zSn_lf zr_160_0) (zSn_nd (zSn_lf zr_160_1) (zSn_lf zr_160_2))) (zSn_nd (zSn_lf zr_160_3) (zSn_nd (zSn_lf zr_160_4) (zSn_lf zr_160_7)))) (zSn_nd (zSn_nd (zSn_lf zr_160_8) (zSn_nd (zSn_lf zr_160_11) (zSn_lf zr_160_12))) (zSn_nd (zSn_lf zr_160_13) (zSn_nd (zSn_lf zr_160_14) (zSn_lf zr_160_17)))))
theorem zr_161_0 : zSnd 161 0 (o_const 0 1) := zS_iconst (by decide +kernel) rfl (by decide)
theorem zr_161_1 : zSnd 161 1 (o_istore 2 2) := zS_istore_n (i := 2) (by decide +kernel) rfl rfl (by decide +kernel)
theorem zr_161_2 : zSnd 161 2 (o_const 0 3) := zS_iconst (by decide +kernel) rfl (by decide)
theorem zr_161_3 : zSnd 161 3 (o_istore 3 4) := zS_istore_n (i := 3) (by decide +kernel) rfl rfl (by decide +kernel)
theorem zr_161_4 : zSnd 161 4 (o_iload 3 5) := zS_iload_n (i := 3) (by decide +kernel) rfl rfl
theorem zr_161_5 : zSnd 161 5 (o_aload 0 6) := zS_aload_n (i := 0) (by decide +kernel) rfl rfl
theorem zr_161_6 : zSnd 161 6 (o_getf 4 1 9) := zS_getf (idx := 46) (by decide +kernel) rfl (by decide) rfl (by decide) rfl zin_4 zq_177
theorem zr_161_9 : zSnd 161 9 (o_cge 34 12) := zS_cge (by decide +kernel : decode (zmB 161) 9 = .ok (.if_icmp .ge 25, 3)) rfl (by decide)
theorem zr_161_12 : zSnd 161 12 (o_iload 2 13) := zS_iload_n (i := 2) (by decide +kernel) rfl rfl
theorem zr_161_13 : zSnd 161 13 (o_aload 0 14) := zS_aload_n (i := 0) (by decide +kernel) rfl rfl
theorem zr_161_14 : zSnd 161 14 (o_getf 4 2 17) := zS_getf (idx := 9) (by decide +kernel) rfl (by decide) rfl (by decide) rfl zin_4 zq_181
theorem zr_161_17 : zSnd 161 17 (o_iload 3 18) := zS_iload_n (i := 3) (by decide +kernel) rfl rfl
theorem zr_161_18 : zSnd 161 18 (o_iald 19) := zS_iald (by decide +kernel) rfl
theorem zr_161_19 : zSnd 161 19 (o_aload 0 20) := zS_aload_n (i := 0) (by decide +kernel) rfl rfl
theorem zr_161_20 : zSnd 161 20 (o_iload 3 21) := zS_iload_n (i := 3) (by decide +kernel) rfl rfl
theorem zr_161_21 : zSnd 161 21 (o_aload 1 22) := zS_aload_n (i := 1) (by decide +kernel) rfl rfl
theorem zr_161_22 : zSnd 161 22 (o_callv 4 160 3 3 1 25) := zS_callV (n := 2) (idx := 86) (by decide +kernel) rfl rfl (by decide) rfl zq_197 zq_72 zq_73 (by decide +kernel) zMk_160 (by decide +kernel) (by decide +kernel) (by decide +kernel)
theorem zr_161_25 : zSnd 161 25 (o_imul 26) := zS_imul (by decide +kernel) rfl
theorem zr_161_26 : zSnd 161 26 (o_iadd 27) := zS_iadd (by decide +kernel) rfl
theorem zr_161_27 : zSnd 161 27 (o_istore 2 28) := zS_istore_n (i := 2) (by decide +kernel) rfl rfl (by decide +kernel)
theorem zr_161_28 : zSnd 161 28 (o_iinc 3 1 31) := zS_iinc (by decide +kernel) rfl (by decide +kernel)
theorem zr_161_31 : zSnd 161 31 (o_goto 4) := zS_goto (by decide +kernel : decode (zmB 161) 31 = .ok (.goto (-27), 3)) (by decide)
theorem zr_161_34 : zSnd 161 34 (o_iload 2 35) := zS_iload_n (i := 2) (by decide +kernel) rfl rfl
theorem zr_161_35 : zSnd 161 35 (o_iret) := zS_iret (by decide +kernel) (by decide +kernel)
theorem zT_161 (pc : Nat) : zSnd 161 pc (zc_161 pc) := by
  unfold zc_161
  exact (zSn_nd (zSn_nd (zSn_nd (zSn_nd (zSn_lf zr_161_0) (zSn_nd (zSn_lf zr_161_1) (zSn_lf zr_161_2))) (zSn_nd (zSn_lf zr_161_3) (zSn_nd (zSn_lf zr_161_4) (zSn_lf zr_161_5)))) (zSn_nd (zSn_nd (zSn_lf zr_161_6) (zSn_nd (zSn_lf zr_161_9) (zSn_lf zr_161_12))) (zSn_nd (zSn_lf zr_161_13) (zSn_nd (zSn_lf zr_161_14) (zSn_lf zr_161_17))))) (zSn_nd (zSn_nd (zSn_nd (zSn_lf zr_161_18) (zSn_nd (zSn_lf zr_161_19) (zSn_lf zr_161_20))) (zSn_nd (zSn_lf zr_161_21) (zSn_nd (zSn_lf zr_161_22) (zSn_lf zr_161_25)))) (zSn_nd (zSn_nd (zSn_lf zr_161_26) (zSn_nd (zSn_lf zr_161_27) (zSn_lf zr_161_28))) (zSn_nd (zSn_lf zr_161_31) (zSn_nd (zSn_lf zr_161_34) (zSn_lf zr_161_35))))))
theorem zr_162_0 : zSnd 162 0 (o_const 0 1) := zS_iconst (by decide +kernel) rfl (by decide)
theorem zr_162_1 : zSnd 162 1 (o_istore 1 2) := zS_istore_n (i := 1) (by decide +kernel) rfl rfl (by decide +kernel)
theorem zr_162_2 : zSnd 162 2 (o_const 0 3) := zS_iconst (by decide +kernel) rfl (by decide)
theorem zr_162_3 : zSnd 162 3 (o_istore 2 4) := zS_istore_n (i := 2) (by decide +kernel) rfl rfl (by decide +kernel)
theorem zr_162_4 : zSnd 162 4 (o_iload 2 5) := zS_iload_n (i := 2) (by decide +kernel) rfl rfl
theorem zr_162_5 : zSnd 162 5 (o_aload 0 6) := zS_aload_n (i := 0) (by decide +kernel) rfl rfl
theorem zr_162_6 : zSnd 162 6 (o_getf 4 1 9) := zS_getf (idx := 46) (by decide +kernel) rfl (by decide) rfl (by decide) rfl zin_4 zq_177
theorem zr_162_9 : zSnd 162 9 (o_cge 32 12) := zS_cge (by decide +kernel : decode (zmB 162) 9 = .ok (.if_icmp .ge 23, 3)) rfl (by decide)
theorem zr_162_12 : zSnd 162 12 (o_iload 1 13) := zS_iload_n (i := 1) (by decide +kernel) rfl rfl
theorem zr_162_13 : zSnd 162 13 (o_aload 0 14) := zS_aload_n (i := 0) (by decide +kernel) rfl rfl
theorem zr_162_14 : zSnd 162 14 (o_iload 2 15) := zS_iload_n (i := 2) (by decide +kernel) rfl rfl
theorem zr_162_15 : zSnd 162 15 (o_aload 0 16) := zS_aload_n (i := 0) (by decide +kernel) rfl rfl
theorem zr_162_16 : zSnd 162 16 (o_getf 4 13 19) := zS_getf (idx := 39) (by decide +kernel) rfl (by decide) rfl (by decide) rfl zin_4 zq_191
theorem zr_162_19 : zSnd 162 19 (o_callv 4 159 3 4 1 22) := zS_callV (n := 2) (idx := 77) (by decide +kernel) rfl rfl (by decide) rfl zq_195 zq_69 zq_70 (by decide +kernel) zMk_159 (by decide +kernel) (by decide +kernel) (by decide +kernel)
theorem zr_162_22 : zSnd 162 22 (o_max 25) := zS_max (idx := 81) (by decide +kernel) rfl zq_196 zq_171 zq_106 zq_172 (by decide +kernel)
theorem zr_162_25 : zSnd 162 25 (o_istore 1 26) := zS_istore_n (i := 1) (by decide +kernel) rfl rfl (by decide +kernel)
theorem zr_162_26 : zSnd 162 26 (o_iinc 2 1 29) := zS_iinc (by decide +kernel) rfl (by decide +kernel)
theorem zr_162_29 : zSnd 162 29 (o_goto 4) := zS_goto (by decide +kernel : decode (zmB 162) 29 = .ok (.goto (-25), 3)) (by decide)
theorem zr_162_32 : zSnd 162 32 (o_iload 1 33) := zS_iload_n (i := 1) (by decide +kernel) rfl rfl
theorem zr_162_33 : zSnd 162 33 (o_iret) := zS_iret (by decide +kernel) (by decide +kernel)
theorem zT_162 (pc : Nat) : zSnd 162 pc (zc_162 pc) := by
  unfold zc_162
  exact (zSn_nd (zSn_nd (zSn_nd (zSn_nd (zSn_lf zr_162_0) (zSn_lf zr_162_1)) (zSn_nd (zSn_lf zr_162_2) (zSn_nd (zSn_lf zr_162_3) (zSn_lf zr_162_4)))) (zSn_nd (zSn_nd (zSn_lf zr_162_5) (zSn_lf zr_162_6)) (zSn_nd (zSn_lf zr_162_9) (zSn_nd (zSn_lf zr_162_12) (zSn_lf zr_162_13))))) (zSn_nd (zSn_nd (zSn_nd (zSn_lf zr_162_14) (zSn_lf zr_162_15)) (zSn_nd (zSn_lf zr_162_16) (zSn_nd (zSn_lf zr_162_19) (zSn_lf zr_162_22)))) (zSn_nd (zSn_nd (zSn_lf zr_162_25) (zSn_lf zr_162_26)) (zSn_nd (zSn_lf zr_162_29) (zSn_nd (zSn_lf zr_162_32) (zSn_lf zr_162_33))))))
theorem zr_163_0 : zSnd 163 0 (o_iload 2 1) := zS_iload_n (i := 2) (by decide +kernel) rfl rfl
theorem zr_163_1 : zSnd 163 1 (o_istore 3 2) := zS_istore_n (i := 3) (by decide +kernel) rfl rfl (by decide +kernel)
theorem zr_163_2 : zSnd 163 2 (o_const 0 3) := zS_iconst (by decide +kernel) rfl (by decide)
theorem zr_163_3 : zSnd 163 3 (o_istore 4 5) := zS_istore (by decide +kernel) rfl (by decide +kernel)
theorem zr_163_5 : zSnd 163 5 (o_iload 4 7) := zS_iload (by decide +kernel) rfl
theorem zr_163_7 : zSnd 163 7 (o_aload 0 8) := zS_aload_n (i := 0) (by decide +kernel) rfl rfl
theorem zr_163_8 : zSnd 163 8 (o_getf 4 7 11) := zS_getf (idx := 49) (by decide +kernel) rfl (by decide) rfl (by decide) rfl zin_4 zq_178
theorem zr_163_11 : zSnd 163 11 (o_cge 76 14) := zS_cge (by decide +kernel : decode (zmB 163) 11 = .ok (.if_icmp .ge 65, 3)) rfl (by decide)
theorem zr_163_14 : zSnd 163 14 (o_iload 3 15) := zS_iload_n (i := 3) (by decide +kernel) rfl rfl
theorem zr_163_15 : zSnd 163 15 (o_istore 5 17) := zS_istore (by decide +kernel) rfl (by decide +kernel)
theorem zr_163_17 : zSnd 163 17 (o_const 0 18) := zS_iconst (by decide +kernel) rfl (by decide)
theorem zr_163_18 : zSnd 163 18 (o_istore 6 20) := zS_istore (by decide +kernel) rfl (by decide +kernel)
theorem zr_163_20 : zSnd 163 20 (o_iload 6 22) := zS_iload (by decide +kernel) rfl
theorem zr_163_22 : zSnd 163 22 (o_aload 0 23) := zS_aload_n (i := 0) (by decide +kernel) rfl rfl
theorem zr_163_23 : zSnd 163 23 (o_getf 4 7 26) := zS_getf (idx := 49) (by decide +kernel) rfl (by decide) rfl (by decide) rfl zin_4 zq_178
theorem zr_163_26 : zSnd 163 26 (o_cge 62 29) := zS_cge (by decide +kernel : decode (zmB 163) 26 = .ok (.if_icmp .ge 36, 3)) rfl (by decide)
theorem zr_163_29 : zSnd 163 29 (o_aload 0 30) := zS_aload_n (i := 0) (by decide +kernel) rfl rfl
theorem zr_163_30 : zSnd 163 30 (o_iload 1 31) := zS_iload_n (i := 1) (by decide +kernel) rfl rfl
theorem zr_163_31 : zSnd 163 31 (o_iload 3 32) := zS_iload_n (i := 3) (by decide +kernel) rfl rfl
theorem zr_163_32 : zSnd 163 32 (o_iload 6 34) := zS_iload (by decide +kernel) rfl
theorem zr_163_34 : zSnd 163 34 (o_callv 4 165 4 4 1 37) := zS_callV (n := 3) (idx := 89) (by decide +kernel) rfl rfl (by decide) rfl zq_198 zq_199 zq_200 (by decide +kernel) zMk_165 (by decide +kernel) (by decide +kernel) (by decide +kernel)
theorem zr_163_37 : zSnd 163 37 (o_ifeq 56 40) := zS_ifeq (by decide +kernel : decode (zmB 163) 37 = .ok (.ifCond .eq 19, 3)) rfl (by decide)
theorem zr_163_40 : zSnd 163 40 (o_aload 0 41) := zS_aload_n (i := 0) (by decide +kernel) rfl rfl
theorem zr_163_41 : zSnd 163 41 (o_getf 4 9 44) := zS_getf (idx := 30) (by decide +kernel) rfl (by decide) rfl (by decide) rfl zin_4 zq_188
theorem zr_163_44 : zSnd 163 44 (o_iload 6 46) := zS_iload (by decide +kernel) rfl
theorem zr_163_46 : zSnd 163 46 (o_iald 47) := zS_iald (by decide +kernel) rfl
theorem zr_163_47 : zSnd 163 47 (o_aload 0 48) := zS_aload_n (i := 0) (by decide +kernel) rfl rfl
theorem zr_163_48 : zSnd 163 48 (o_getf 4 10 51) := zS_getf (idx := 33) (by decide +kernel) rfl (by decide) rfl (by decide) rfl zin_4 zq_189
theorem zr_163_51 : zSnd 163 51 (o_iload 6 53) := zS_iload (by decide +kernel) rfl
theorem zr_163_53 : zSnd 163 53 (o_iald 54) := zS_iald (by decide +kernel) rfl
theorem zr_163_54 : zSnd 163 54 (o_iadd 55) := zS_iadd (by decide +kernel) rfl
theorem zr_163_55 : zSnd 163 55 (o_istore 3 56) := zS_istore_n (i := 3) (by decide +kernel) rfl rfl (by decide +kernel)
theorem zr_163_56 : zSnd 163 56 (o_iinc 6 1 59) := zS_iinc (by decide +kernel) rfl (by decide +kernel)
theorem zr_163_59 : zSnd 163 59 (o_goto 20) := zS_goto (by decide +kernel : decode (zmB 163) 59 = .ok (.goto (-39), 3)) (by decide)
theorem zr_163_62 : zSnd 163 62 (o_iload 3 63) := zS_iload_n (i := 3) (by decide +kernel) rfl rfl
theorem zr_163_63 : zSnd 163 63 (o_iload 5 65) := zS_iload (by decide +kernel) rfl
theorem zr_163_65 : zSnd 163 65 (o_cne 70 68) := zS_cne (by decide +kernel : decode (zmB 163) 65 = .ok (.if_icmp .ne 5, 3)) rfl (by decide)
theorem zr_163_68 : zSnd 163 68 (o_iload 3 69) := zS_iload_n (i := 3) (by decide +kernel) rfl rfl
theorem zr_163_69 : zSnd 163 69 (o_iret) := zS_iret (by decide +kernel) (by decide +kernel)
theorem zr_163_70 : zSnd 163 70 (o_iinc 4 1 73) := zS_iinc (by decide +kernel) rfl (by decide +kernel)
theorem zr_163_73 : zSnd 163 73 (o_goto 5) := zS_goto (by decide +kernel : decode (zmB 163) 73 = .ok (.goto (-68), 3)) (by decide)
theorem zr_163_76 : zSnd 163 76 (o_iload 3 77) := zS_iload_n (i := 3) (by decide +kernel) rfl rfl
theorem zr_163_77 : zSnd 163 77 (o_iret) := zS_iret (by decide +kernel) (by decide +kernel)
theorem zT_163 (pc : Nat) : zSnd 163 pc (zc_163 pc) := by
  unfold zc_163
  exact (zSn_nd (zSn_nd (zSn_nd (zSn_nd (zSn_nd (zSn_lf zr_163_0) (zSn_lf zr_163_1)) (zSn_nd (zSn_lf zr_163_2) (zSn_nd (zSn_lf zr_163_3) (zSn_lf zr_163_5)))) (zSn_nd (zSn_nd (zSn_lf zr_163_7) (zSn_lf zr_163_8)) (zSn_nd (zSn_lf zr_163_11) (zSn_nd (zSn_lf zr_163_14) (zSn_lf zr_163_15))))) (zSn_nd (zSn_nd (zSn_nd (zSn_lf zr_163_17) (zSn_lf zr_163_18)) (zSn_nd (zSn_lf zr_163_20) (zSn_nd (zSn_lf zr_163_22) (zSn_lf zr_163_23)))) (zSn_nd (zSn_nd (zSn_lf zr_163_26) (zSn_nd (zSn_lf zr_163_29) (zSn_lf zr_163_30))) (zSn_nd (zSn_lf zr_163_31) (zSn_nd (zSn_lf zr_163_32) (zSn_lf zr_163_34)))))) (zSn_nd (zSn_nd (zSn_nd (zSn_nd (zSn_lf zr_163_37) (zSn_lf zr_163_40)) (zSn_nd (zSn_lf zr_163_41) (zSn_nd (zSn_lf zr_163_44) (zSn_lf zr_163_46)))) (zSn_nd (zSn_nd (zSn_lf zr_163_47) (zSn_nd (zSn_lf zr_163_48) (zSn_lf zr_163_51))) (zSn_nd (zSn_lf zr_163_53) (zSn_nd (zSn_lf zr_163_54) (zSn_lf zr_163_55))))) (zSn_nd (zSn_nd (zSn_nd (zSn_lf zr_163_56) (zSn_lf zr_163_59)) (zSn_nd (zSn_lf zr_163_62) (zSn_nd (zSn_lf zr_163_63) (zSn_lf zr_163_65)))) (zSn_nd (zSn_nd (zSn_lf zr_163_68) (zSn_nd (zSn_lf zr_163_69) (zSn_lf zr_163_70))) (zSn_nd (zSn_lf zr_163_73) (zSn_nd (zSn_lf zr_163_76) (zSn_lf zr_163_77)))))))
theorem zr_164_0 : zSnd 164 0 (o_const 0 1) := zS_iconst (by decide +kernel) rfl (by decide)
theorem zr_164_1 : zSnd 164 1 (o_istore 3 2) := zS_istore_n (i := 3) (by decide +kernel) rfl rfl (by decide +kernel)
theorem zr_164_2 : zSnd 164 2 (o_iload 3 3) := zS_iload_n (i := 3) (by decide +kernel) rfl rfl
theorem zr_164_3 : zSnd 164 3 (o_aload 0 4) := zS_aload_n (i := 0) (by decide +kernel) rfl rfl
theorem zr_164_4 : zSnd 164 4 (o_getf 4 7 7) := zS_getf (idx := 49) (by decide +kernel) rfl (by decide) rfl (by decide) rfl zin_4 zq_178
theorem zr_164_7 : zSnd 164 7 (o_cge 28 10) := zS_cge (by decide +kernel : decode (zmB 164) 7 = .ok (.if_icmp .ge 21, 3)) rfl (by decide)
theorem zr_164_10 : zSnd 164 10 (o_aload 0 11) := zS_aload_n (i := 0) (by decide +kernel) rfl rfl
theorem zr_164_11 : zSnd 164 11 (o_iload 1 12) := zS_iload_n (i := 1) (by decide +kernel) rfl rfl
theorem zr_164_12 : zSnd 164 12 (o_iload 2 13) := zS_iload_n (i := 2) (by decide +kernel) rfl rfl
theorem zr_164_13 : zSnd 164 13 (o_iload 3 14) := zS_iload_n (i := 3) (by decide +kernel) rfl rfl
theorem zr_164_14 : zSnd 164 14 (o_callv 4 165 4 4 1 17) := zS_callV (n := 3) (idx := 89) (by decide +kernel) rfl rfl (by decide) rfl zq_198 zq_199 zq_200 (by decide +kernel) zMk_165 (by decide +kernel) (by decide +kernel) (by decide +kernel)
theorem zr_164_17 : zSnd 164 17 (o_ifeq 22 20) := zS_ifeq (by decide +kernel : decode (zmB 164) 17 = .ok (.ifCond .eq 5, 3)) rfl (by decide)
theorem zr_164_20 : zSnd 164 20 (o_const 1 21) := zS_iconst (by decide +kernel) rfl (by decide)
theorem zr_164_21 : zSnd 164 21 (o_zret) := zS_zret (by decide +kernel) (by decide +kernel)
theorem zr_164_22 : zSnd 164 22 (o_iinc 3 1 25) := zS_iinc (by decide +kernel) rfl (by decide +kernel)
theorem zr_164_25 : zSnd 164 25 (o_goto 2) := zS_goto (by decide +kernel : decode (zmB 164) 25 = .ok (.goto (-23), 3)) (by decide)
theorem zr_164_28 : zSnd 164 28 (o_const 0 29) := zS_iconst (by decide +kernel) rfl (by decide)
theorem zr_164_29 : zSnd 164 29 (o_zret) := zS_zret (by decide +kernel) (by decide +kernel)
theorem zT_164 (pc : Nat) : zSnd 164 pc (zc_164 pc) := by
  unfold zc_164
  exact (zSn_nd (zSn_nd (zSn_nd (zSn_nd (zSn_lf zr_164_0) (zSn_lf zr_164_1)) (zSn_nd (zSn_lf zr_164_2) (zSn_lf zr_164_3))) (zSn_nd (zSn_nd (zSn_lf zr_164_4) (zSn_lf zr_164_7)) (zSn_nd (zSn_lf zr_164_10) (zSn_nd (zSn_lf zr_164_11) (zSn_lf zr_164_12))))) (zSn_nd (zSn_nd (zSn_nd (zSn_lf zr_164_13) (zSn_lf zr_164_14)) (zSn_nd (zSn_lf zr_164_17) (zSn_lf zr_164_20))) (zSn_nd (zSn_nd (zSn_lf zr_164_21) (zSn_lf zr_164_22)) (zSn_nd (zSn_lf zr_164_25) (zSn_nd (zSn_lf zr_164_28) (zSn_lf zr_164_29))))))
theorem zr_165_0 : zSnd 165 0 (o_aload 0 1) := zS_aload_n (i := 0) (by decide +kernel) rfl rfl
theorem zr_165_1 : zSnd 165 1 (o_getf 4 8 4) := zS_getf (idx := 27) (by decide +kernel) rfl (by decide) rfl (by decide) rfl zin_4 zq_187
theorem zr_165_4 : zSnd 165 4 (o_iload 3 5) := zS_iload_n (i := 3) (by decide +kernel) rfl rfl
theorem zr_165_5 : zSnd 165 5 (o_iald 6) := zS_iald (by decide +kernel) rfl
theorem zr_165_6 : zSnd 165 6 (o_aload 0 7) := zS_aload_n (i := 0) (by decide +kernel) rfl rfl
theorem zr_165_7 : zSnd 165 7 (o_getf 4 5 10) := zS_getf (idx := 21) (by decide +kernel) rfl (by decide) rfl (by decide) rfl zin_4 zq_185
theorem zr_165_10 : zSnd 165 10 (o_iload 1 11) := zS_iload_n (i := 1) (by decide +kernel) rfl rfl
theorem zr_165_11 : zSnd 165 11 (o_iald 12) := zS_iald (by decide +kernel) rfl
theorem zr_165_12 : zSnd 165 12 (o_cne 53 15) := zS_cne (by decide +kernel : decode (zmB 165) 12 = .ok (.if_icmp .ne 41, 3)) rfl (by decide)
theorem zr_165_15 : zSnd 165 15 (o_iload 2 16) := zS_iload_n (i := 2) (by decide +kernel) rfl rfl
theorem zr_165_16 : zSnd 165 16 (o_aload 0 17) := zS_aload_n (i := 0) (by decide +kernel) rfl rfl
theorem zr_165_17 : zSnd 165 17 (o_getf 4 9 20) := zS_getf (idx := 30) (by decide +kernel) rfl (by decide) rfl (by decide) rfl zin_4 zq_188
theorem zr_165_20 : zSnd 165 20 (o_iload 3 21) := zS_iload_n (i := 3) (by decide +kernel) rfl rfl
theorem zr_165_21 : zSnd 165 21 (o_iald 22) := zS_iald (by decide +kernel) rfl
theorem zr_165_22 : zSnd 165 22 (o_aload 0 23) := zS_aload_n (i := 0) (by decide +kernel) rfl rfl
theorem zr_165_23 : zSnd 165 23 (o_getf 4 10 26) := zS_getf (idx := 33) (by decide +kernel) rfl (by decide) rfl (by decide) rfl zin_4 zq_189
theorem zr_165_26 : zSnd 165 26 (o_iload 3 27) := zS_iload_n (i := 3) (by decide +kernel) rfl rfl
theorem zr_165_27 : zSnd 165 27 (o_iald 28) := zS_iald (by decide +kernel) rfl
theorem zr_165_28 : zSnd 165 28 (o_iadd 29) := zS_iadd (by decide +kernel) rfl
theorem zr_165_29 : zSnd 165 29 (o_cge 53 32) := zS_cge (by decide +kernel : decode (zmB 165) 29 = .ok (.if_icmp .ge 24, 3)) rfl (by decide)
theorem zr_165_32 : zSnd 165 32 (o_iload 2 33) := zS_iload_n (i := 2) (by decide +kernel) rfl rfl
theorem zr_165_33 : zSnd 165 33 (o_aload 0 34) := zS_aload_n (i := 0) (by decide +kernel) rfl rfl
theorem zr_165_34 : zSnd 165 34 (o_getf 4 6 37) := zS_getf (idx := 24) (by decide +kernel) rfl (by decide) rfl (by decide) rfl zin_4 zq_186
theorem zr_165_37 : zSnd 165 37 (o_iload 1 38) := zS_iload_n (i := 1) (by decide +kernel) rfl rfl
theorem zr_165_38 : zSnd 165 38 (o_iald 39) := zS_iald (by decide +kernel) rfl
theorem zr_165_39 : zSnd 165 39 (o_iadd 40) := zS_iadd (by decide +kernel) rfl
theorem zr_165_40 : zSnd 165 40 (o_aload 0 41) := zS_aload_n (i := 0) (by decide +kernel) rfl rfl
theorem zr_165_41 : zSnd 165 41 (o_getf 4 9 44) := zS_getf (idx := 30) (by decide +kernel) rfl (by decide) rfl (by decide) rfl zin_4 zq_188
theorem zr_165_44 : zSnd 165 44 (o_iload 3 45) := zS_iload_n (i := 3) (by decide +kernel) rfl rfl
theorem zr_165_45 : zSnd 165 45 (o_iald 46) := zS_iald (by decide +kernel) rfl
theorem zr_165_46 : zSnd 165 46 (o_cle 53 49) := zS_cle (by decide +kernel : decode (zmB 165) 46 = .ok (.if_icmp .le 7, 3)) rfl (by decide)
theorem zr_165_49 : zSnd 165 49 (o_const 1 50) := zS_iconst (by decide +kernel) rfl (by decide)
theorem zr_165_50 : zSnd 165 50 (o_goto 54) := zS_goto (by decide +kernel : decode (zmB 165) 50 = .ok (.goto 4, 3)) (by decide)
theorem zr_165_53 : zSnd 165 53 (o_const 0 54) := zS_iconst (by decide +kernel) rfl (by decide)
theorem zr_165_54 : zSnd 165 54 (o_zret) := zS_zret (by decide +kernel) (by decide +kernel)
theorem zT_165 (pc : Nat) : zSnd 165 pc (zc_165 pc) := by
  unfold zc_165
  exact (zSn_nd (zSn_nd (zSn_nd (zSn_nd (zSn_nd (zSn_lf zr_165_0) (zSn_lf zr_165_1)) (zSn_nd (zSn_lf zr_165_4) (zSn_lf zr_165_5))) (zSn_nd (zSn_nd (zSn_lf zr_165_6) (zSn_lf zr_165_7)) (zSn_nd (zSn_lf zr_165_10) (zSn_lf zr_165_11)))) (zSn_nd (zSn_nd (zSn_nd (zSn_lf zr_165_12) (zSn_lf zr_165_15)) (zSn_nd (zSn_lf zr_165_16) (zSn_lf zr_165_17))) (zSn_nd (zSn_nd (zSn_lf zr_165_20) (zSn_lf zr_165_21)) (zSn_nd (zSn_lf zr_165_22) (zSn_nd (zSn_lf zr_165_23) (zSn_lf zr_165_26)))))) (zSn_nd (zSn_nd (zSn_nd (zSn_nd (zSn_lf zr_165_27) (zSn_lf zr_165_28)) (zSn_nd (zSn_lf zr_165_29) (zSn_lf zr_165_32))) (zSn_nd (zSn_nd (zSn_lf zr_165_33) (zSn_lf zr_165_34)) (zSn_nd (zSn_lf zr_165_37) (zSn_nd (zSn_lf zr_165_38) (zSn_lf zr_165_39))))) (zSn_nd (zSn_nd (zSn_nd (zSn_lf zr_165_40) (zSn_lf zr_165_41)) (zSn_nd (zSn_lf zr_165_44) (zSn_lf zr_165_45))) (zSn_nd (zSn_nd (zSn_lf zr_165_46) (zSn_lf zr_165_49)) (zSn_nd (zSn_lf zr_165_50) (zSn_nd (zSn_lf zr_165_53) (zSn_lf zr_165_54)))))))
theorem zr_166_0 : zSnd 166 0 (o_const 0 1) := zS_iconst (by decide +kernel) rfl (by decide)
theorem zr_166_1 : zSnd 166 1 (o_istore 1 2) := zS_istore_n (i := 1) (by decide +kernel) rfl rfl (by decide +kernel)
theorem zr_166_2 : zSnd 166 2 (o_const 0 3) := zS_iconst (by decide +kernel) rfl (by decide)
theorem zr_166_3 : zSnd 166 3 (o_istore 2 4) := zS_istore_n (i := 2) (by decide +kernel) rfl rfl (by decide +kernel)
theorem zr_166_4 : zSnd 166 4 (o_iload 2 5) := zS_iload_n (i := 2) (by decide +kernel) rfl rfl
theorem zr_166_5 : zSnd 166 5 (o_aload 0 6) := zS_aload_n (i := 0) (by decide +kernel) rfl rfl
theorem zr_166_6 : zSnd 166 6 (o_getf 4 1 9) := zS_getf (idx := 46) (by decide +kernel) rfl (by decide) rfl (by decide) rfl zin_4 zq_177
theorem zr_166_9 : zSnd 166 9 (o_cge 62 12) := zS_cge (by decide +kernel : decode (zmB 166) 9 = .ok (.if_icmp .ge 53, 3)) rfl (by decide)
theorem zr_166_12 : zSnd 166 12 (o_const 0 13) := zS_iconst (by decide +kernel) rfl (by decide)
theorem zr_166_13 : zSnd 166 13 (o_istore 3 14) := zS_istore_n (i := 3) (by decide +kernel) rfl rfl (by decide +kernel)
theorem zr_166_14 : zSnd 166 14 (o_iload 3 15) := zS_iload_n (i := 3) (by decide +kernel) rfl rfl
theorem zr_166_15 : zSnd 166 15 (o_aload 0 16) := zS_aload_n (i := 0) (by decide +kernel) rfl rfl
theorem zr_166_16 : zSnd 166 16 (o_getf 4 4 19) := zS_getf (idx := 18) (by decide +kernel) rfl (by decide) rfl (by decide) rfl zin_4 zq_184
theorem zr_166_19 : zSnd 166 19 (o_iload 2 20) := zS_iload_n (i := 2) (by decide +kernel) rfl rfl
theorem zr_166_20 : zSnd 166 20 (o_iald 21) := zS_iald (by decide +kernel) rfl
theorem zr_166_21 : zSnd 166 21 (o_cge 56 24) := zS_cge (by decide +kernel : decode (zmB 166) 21 = .ok (.if_icmp .ge 35, 3)) rfl (by decide)
theorem zr_166_24 : zSnd 166 24 (o_iload 2 25) := zS_iload_n (i := 2) (by decide +kernel) rfl rfl
theorem zr_166_25 : zSnd 166 25 (o_iload 3 26) := zS_iload_n (i := 3) (by decide +kernel) rfl rfl
theorem zr_166_26 : zSnd 166 26 (o_call 35 2 2 1 29) := zS_callSN (idx := 69) (by decide +kernel) rfl zq_193 zq_62 (by decide +kernel) zMk_35 (by decide +kernel) (by decide +kernel) (by decide +kernel)
theorem zr_166_29 : zSnd 166 29 (o_istore 4 31) := zS_istore (by decide +kernel) rfl (by decide +kernel)
theorem zr_166_31 : zSnd 166 31 (o_aload 0 32) := zS_aload_n (i := 0) (by decide +kernel) rfl rfl
theorem zr_166_32 : zSnd 166 32 (o_iload 4 34) := zS_iload (by decide +kernel) rfl
theorem zr_166_34 : zSnd 166 34 (o_aload 0 35) := zS_aload_n (i := 0) (by decide +kernel) rfl rfl
theorem zr_166_35 : zSnd 166 35 (o_getf 4 13 38) := zS_getf (idx := 39) (by decide +kernel) rfl (by decide) rfl (by decide) rfl zin_4 zq_191
theorem zr_166_38 : zSnd 166 38 (o_iload 4 40) := zS_iload (by decide +kernel) rfl
theorem zr_166_40 : zSnd 166 40 (o_iald 41) := zS_iald (by decide +kernel) rfl
theorem zr_166_41 : zSnd 166 41 (o_callv 4 164 3 4 1 44) := zS_callV (n := 2) (idx := 93) (by decide +kernel) rfl rfl (by decide) rfl zq_201 zq_77 zq_78 (by decide +kernel) zMk_164 (by decide +kernel) (by decide +kernel) (by decide +kernel)
theorem zr_166_44 : zSnd 166 44 (o_ifeq 50 47) := zS_ifeq (by decide +kernel : decode (zmB 166) 44 = .ok (.ifCond .eq 6, 3)) rfl (by decide)
theorem zr_166_47 : zSnd 166 47 (o_iinc 1 1 50) := zS_iinc (by decide +kernel) rfl (by decide +kernel)
theorem zr_166_50 : zSnd 166 50 (o_iinc 3 1 53) := zS_iinc (by decide +kernel) rfl (by decide +kernel)
theorem zr_166_53 : zSnd 166 53 (o_goto 14) := zS_goto (by decide +kernel : decode (zmB 166) 53 = .ok (.goto (-39), 3)) (by decide)
theorem zr_166_56 : zSnd 166 56 (o_iinc 2 1 59) := zS_iinc (by decide +kernel) rfl (by decide +kernel)
theorem zr_166_59 : zSnd 166 59 (o_goto 4) := zS_goto (by decide +kernel : decode (zmB 166) 59 = .ok (.goto (-55), 3)) (by decide)
theorem zr_166_62 : zSnd 166 62 (o_iload 1 63) := zS_iload_n (i := 1) (by decide +kernel) rfl rfl
theorem zr_166_63 : zSnd 166 63 (o_iret) := zS_iret (by decide +kernel) (by decide +kernel)
theorem zT_166 (pc : Nat) : zSnd 166 pc (zc_166 pc) := by
  unfold zc_166
  exact (zSn_nd (zSn_nd (zSn_nd (zSn_nd (zSn_nd (zSn_lf zr_166_0) (zSn_lf zr_166_1)) (zSn_nd (zSn_lf zr_166_2) (zSn_lf zr_166_3))) (zSn_nd (zSn_nd (zSn_lf zr_166_4) (zSn_lf zr_166_5)) (zSn_nd (zSn_lf zr_166_6) (zSn_lf zr_166_9)))) (zSn_nd (zSn_nd (zSn_nd (zSn_lf zr_166_12) (zSn_lf zr_166_13)) (zSn_nd (zSn_lf zr_166_14) (zSn_lf zr_166_15))) (zSn_nd (zSn_nd (zSn_lf zr_166_16) (zSn_lf zr_166_19)) (zSn_nd (zSn_lf zr_166_20) (zSn_nd (zSn_lf zr_166_21) (zSn_lf zr_166_24)))))) (zSn_nd (zSn_nd (zSn_nd (zSn_nd (zSn_lf zr_166_25) (zSn_lf zr_166_26)) (zSn_nd (zSn_lf zr_166_29) (zSn_lf zr_166_31))) (zSn_nd (zSn_nd (zSn_lf zr_166_32) (zSn_lf zr_166_34)) (zSn_nd (zSn_lf zr_166_35) (zSn_nd (zSn_lf zr_166_38) (zSn_lf zr_166_40))))) (zSn_nd (zSn_nd (zSn_nd (zSn_lf zr_166_41) (zSn_lf zr_166_44)) (zSn_nd (zSn_lf zr_166_47) (zSn_lf zr_166_50))) (zSn_nd (zSn_nd (zSn_lf zr_166_53) (zSn_lf zr_166_56)) (zSn_nd (zSn_lf zr_166_59) (zSn_nd (zSn_lf zr_166_62) (zSn_lf zr_166_63)))))))
theorem zr_167_0 : zSnd 167 0 (o_const 0 1) := zS_iconst (by decide +kernel) rfl (by decide)
theorem zr_167_1 : zSnd 167 1 (o_istore 1 2) := zS_istore_n (i := 1) (by decide +kernel) rfl rfl (by decide +kernel)
theorem zr_167_2 : zSnd 167 2 (o_const 0 3) := zS_iconst (by decide +kernel) rfl (by decide)
theorem zr_167_3 : zSnd 167 3 (o_istore 2 4) := zS_istore_n (i := 2) (by decide +kernel) rfl rfl (by decide +kernel)
theorem zr_167_4 : zSnd 167 4 (o_iload 2 5) := zS_iload_n (i := 2) (by decide +kernel) rfl rfl
theorem zr_167_5 : zSnd 167 5 (o_aload 0 6) := zS_aload_n (i := 0) (by decide +kernel) rfl rfl
theorem zr_167_6 : zSnd 167 6 (o_getf 4 1 9) := zS_getf (idx := 46) (by decide +kernel) rfl (by decide) rfl (by decide) rfl zin_4 zq_177
theorem zr_167_9 : zSnd 167 9 (o_cge 74 12) := zS_cge (by decide +kernel : decode (zmB 167) 9 = .ok (.if_icmp .ge 65, 3)) rfl (by decide)
theorem zr_167_12 : zSnd 167 12 (o_const 0 13) := zS_iconst (by decide +kernel) rfl (by decide)
theorem zr_167_13 : zSnd 167 13 (o_istore 3 14) := zS_istore_n (i := 3) (by decide +kernel) rfl rfl (by decide +kernel)
theorem zr_167_14 : zSnd 167 14 (o_iload 3 15) := zS_iload_n (i := 3) (by decide +kernel) rfl rfl
theorem zr_167_15 : zSnd 167 15 (o_aload 0 16) := zS_aload_n (i := 0) (by decide +kernel) rfl rfl
theorem zr_167_16 : zSnd 167 16 (o_getf 4 4 19) := zS_getf (idx := 18) (by decide +kernel) rfl (by decide) rfl (by decide) rfl zin_4 zq_184
theorem zr_167_19 : zSnd 167 19 (o_iload 2 20) := zS_iload_n (i := 2) (by decide +kernel) rfl rfl
theorem zr_167_20 : zSnd 167 20 (o_iald 21) := zS_iald (by decide +kernel) rfl
theorem zr_167_21 : zSnd 167 21 (o_cge 68 24) := zS_cge (by decide +kernel : decode (zmB 167) 21 = .ok (.if_icmp .ge 47, 3)) rfl (by decide)
theorem zr_167_24 : zSnd 167 24 (o_iload 2 25) := zS_iload_n (i := 2) (by decide +kernel) rfl rfl
theorem zr_167_25 : zSnd 167 25 (o_iload 3 26) := zS_iload_n (i := 3) (by decide +kernel) rfl rfl
theorem zr_167_26 : zSnd 167 26 (o_call 35 2 2 1 29) := zS_callSN (idx := 69) (by decide +kernel) rfl zq_193 zq_62 (by decide +kernel) zMk_35 (by decide +kernel) (by decide +kernel) (by decide +kernel)
theorem zr_167_29 : zSnd 167 29 (o_istore 4 31) := zS_istore (by decide +kernel) rfl (by decide +kernel)
theorem zr_167_31 : zSnd 167 31 (o_aload 0 32) := zS_aload_n (i := 0) (by decide +kernel) rfl rfl
theorem zr_167_32 : zSnd 167 32 (o_getf 4 12 35) := zS_getf (idx := 36) (by decide +kernel) rfl (by decide) rfl (by decide) rfl zin_4 zq_190
theorem zr_167_35 : zSnd 167 35 (o_iload 4 37) := zS_iload (by decide +kernel) rfl
theorem zr_167_37 : zSnd 167 37 (o_iald 38) := zS_iald (by decide +kernel) rfl
theorem zr_167_38 : zSnd 167 38 (o_aload 0 39) := zS_aload_n (i := 0) (by decide +kernel) rfl rfl
theorem zr_167_39 : zSnd 167 39 (o_getf 4 13 42) := zS_getf (idx := 39) (by decide +kernel) rfl (by decide) rfl (by decide) rfl zin_4 zq_191
theorem zr_167_42 : zSnd 167 42 (o_iload 4 44) := zS_iload (by decide +kernel) rfl
theorem zr_167_44 : zSnd 167 44 (o_iald 45) := zS_iald (by decide +kernel) rfl
theorem zr_167_45 : zSnd 167 45 (o_ceq 62 48) := zS_ceq (by decide +kernel : decode (zmB 167) 45 = .ok (.if_icmp .eq 17, 3)) rfl (by decide)
theorem zr_167_48 : zSnd 167 48 (o_iload 1 49) := zS_iload_n (i := 1) (by decide +kernel) rfl rfl
theorem zr_167_49 : zSnd 167 49 (o_aload 0 50) := zS_aload_n (i := 0) (by decide +kernel) rfl rfl
theorem zr_167_50 : zSnd 167 50 (o_getf 4 12 53) := zS_getf (idx := 36) (by decide +kernel) rfl (by decide) rfl (by decide) rfl zin_4 zq_190
theorem zr_167_53 : zSnd 167 53 (o_iload 4 55) := zS_iload (by decide +kernel) rfl
theorem zr_167_55 : zSnd 167 55 (o_iald 56) := zS_iald (by decide +kernel) rfl
theorem zr_167_56 : zSnd 167 56 (o_const 1 57) := zS_iconst (by decide +kernel) rfl (by decide)
theorem zr_167_57 : zSnd 167 57 (o_iadd 58) := zS_iadd (by decide +kernel) rfl
theorem zr_167_58 : zSnd 167 58 (o_max 61) := zS_max (idx := 81) (by decide +kernel) rfl zq_196 zq_171 zq_106 zq_172 (by decide +kernel)
theorem zr_167_61 : zSnd 167 61 (o_istore 1 62) := zS_istore_n (i := 1) (by decide +kernel) rfl rfl (by decide +kernel)
theorem zr_167_62 : zSnd 167 62 (o_iinc 3 1 65) := zS_iinc (by decide +kernel) rfl (by decide +kernel)
theorem zr_167_65 : zSnd 167 65 (o_goto 14) := zS_goto (by decide +kernel : decode (zmB 167) 65 = .ok (.goto (-51), 3)) (by decide)
theorem zr_167_68 : zSnd 167 68 (o_iinc 2 1 71) := zS_iinc (by decide +kernel) rfl (by decide +kernel)
theorem zr_167_71 : zSnd 167 71 (o_goto 4) := zS_goto (by decide +kernel : decode (zmB 167) 71 = .ok (.goto (-67), 3)) (by decide)
theorem zr_167_74 : zSnd 167 74 (o_iload 1 75) := zS_iload_n (i := 1) (by decide +kernel) rfl rfl
theorem zr_167_75 : zSnd 167 75 (o_iret) := zS_iret (by decide +kernel) (by decide +kernel)
theorem zT_167 (pc : Nat) : zSnd 167 pc (zc_167 pc) := by
  unfold zc_167
  exact (zSn_nd (zSn_nd (zSn_nd (zSn_nd (zSn_nd (zSn_lf zr_167_0) (zSn_lf zr_167_1)) (zSn_nd (zSn_lf zr_167_2) (zSn_nd (zSn_lf zr_167_3) (zSn_lf zr_167_4)))) (zSn_nd (zSn_nd (zSn_lf zr_167_5) (zSn_nd (zSn_lf zr_167_6) (zSn_lf zr_167_9))) (zSn_nd (zSn_lf zr_167_12) (zSn_nd (zSn_lf zr_167_13) (zSn_lf zr_167_14))))) (zSn_nd (zSn_nd (zSn_nd (zSn_lf zr_167_15) (zSn_lf zr_167_16)) (zSn_nd (zSn_lf zr_167_19) (zSn_nd (zSn_lf zr_167_20) (zSn_lf zr_167_21)))) (zSn_nd (zSn_nd (zSn_lf zr_167_24) (zSn_nd (zSn_lf zr_167_25) (zSn_lf zr_167_26))) (zSn_nd (zSn_lf zr_167_29) (zSn_nd (zSn_lf zr_167_31) (zSn_lf zr_167_32)))))) (zSn_nd (zSn_nd (zSn_nd (zSn_nd (zSn_lf zr_167_35) (zSn_lf zr_167_37)) (zSn_nd (zSn_lf zr_167_38) (zSn_nd (zSn_lf zr_167_39) (zSn_lf zr_167_42)))) (zSn_nd (zSn_nd (zSn_lf zr_167_44) (zSn_nd (zSn_lf zr_167_45) (zSn_lf zr_167_48))) (zSn_nd (zSn_lf zr_167_49) (zSn_nd (zSn_lf zr_167_50) (zSn_lf zr_167_53))))) (zSn_nd (zSn_nd (zSn_nd (zSn_lf zr_167_55) (zSn_lf zr_167_56)) (zSn_nd (zSn_lf zr_167_57) (zSn_nd (zSn_lf zr_167_58) (zSn_lf zr_167_61)))) (zSn_nd (zSn_nd (zSn_lf zr_167_62) (zSn_nd (zSn_lf zr_167_65) (zSn_lf zr_167_68))) (zSn_nd (zSn_lf zr_167_71) (zSn_nd (zSn_lf zr_167_74) (zSn_lf zr_167_75)))))))
theorem zr_168_0 : zSnd 168 0 (o_const 0 1) := zS_iconst (by decide +kernel) rfl (by decide)
theorem zr_168_1 : zSnd 168 1 (o_istore 1 2) := zS_istore_n (i := 1) (by decide +kernel) rfl rfl (by decide +kernel)
theorem zr_168_2 : zSnd 168 2 (o_const 0 3) := zS_iconst (by decide +kernel) rfl (by decide)
theorem zr_168_3 : zSnd 168 3 (o_istore 2 4) := zS_istore_n (i := 2) (by decide +kernel) rfl rfl (by decide +kernel)
theorem zr_168_4 : zSnd 168 4 (o_iload 2 5) := zS_iload_n (i := 2) (by decide +kernel) rfl rfl
theorem zr_168_5 : zSnd 168 5 (o_aload 0 6) := zS_aload_n (i := 0) (by decide +kernel) rfl rfl
theorem zr_168_6 : zSnd 168 6 (o_getf 4 1 9) := zS_getf (idx := 46) (by decide +kernel) rfl (by decide) rfl (by decide) rfl zin_4 zq_177
theorem zr_168_9 : zSnd 168 9 (o_cge 77 12) := zS_cge (by decide +kernel : decode (zmB 168) 9 = .ok (.if_icmp .ge 68, 3)) rfl (by decide)
theorem zr_168_12 : zSnd 168 12 (o_const 0 13) := zS_iconst (by decide +kernel) rfl (by decide)
theorem zr_168_13 : zSnd 168 13 (o_istore 3 14) := zS_istore_n (i := 3) (by decide +kernel) rfl rfl (by decide +kernel)
theorem zr_168_14 : zSnd 168 14 (o_iload 3 15) := zS_iload_n (i := 3) (by decide +kernel) rfl rfl
theorem zr_168_15 : zSnd 168 15 (o_aload 0 16) := zS_aload_n (i := 0) (by decide +kernel) rfl rfl
theorem zr_168_16 : zSnd 168 16 (o_getf 4 4 19) := zS_getf (idx := 18) (by decide +kernel) rfl (by decide) rfl (by decide) rfl zin_4 zq_184
theorem zr_168_19 : zSnd 168 19 (o_iload 2 20) := zS_iload_n (i := 2) (by decide +kernel) rfl rfl
theorem zr_168_20 : zSnd 168 20 (o_iald 21) := zS_iald (by decide +kernel) rfl
theorem zr_168_21 : zSnd 168 21 (o_cge 71 24) := zS_cge (by decide +kernel : decode (zmB 168) 21 = .ok (.if_icmp .ge 50, 3)) rfl (by decide)
theorem zr_168_24 : zSnd 168 24 (o_iload 2 25) := zS_iload_n (i := 2) (by decide +kernel) rfl rfl
theorem zr_168_25 : zSnd 168 25 (o_iload 3 26) := zS_iload_n (i := 3) (by decide +kernel) rfl rfl
theorem zr_168_26 : zSnd 168 26 (o_call 35 2 2 1 29) := zS_callSN (idx := 69) (by decide +kernel) rfl zq_193 zq_62 (by decide +kernel) zMk_35 (by decide +kernel) (by decide +kernel) (by decide +kernel)
theorem zr_168_29 : zSnd 168 29 (o_istore 4 31) := zS_istore (by decide +kernel) rfl (by decide +kernel)
theorem zr_168_31 : zSnd 168 31 (o_aload 0 32) := zS_aload_n (i := 0) (by decide +kernel) rfl rfl
theorem zr_168_32 : zSnd 168 32 (o_getf 4 12 35) := zS_getf (idx := 36) (by decide +kernel) rfl (by decide) rfl (by decide) rfl zin_4 zq_190
theorem zr_168_35 : zSnd 168 35 (o_iload 4 37) := zS_iload (by decide +kernel) rfl
theorem zr_168_37 : zSnd 168 37 (o_iald 38) := zS_iald (by decide +kernel) rfl
theorem zr_168_38 : zSnd 168 38 (o_aload 0 39) := zS_aload_n (i := 0) (by decide +kernel) rfl rfl
theorem zr_168_39 : zSnd 168 39 (o_getf 4 13 42) := zS_getf (idx := 39) (by decide +kernel) rfl (by decide) rfl (by decide) rfl zin_4 zq_191
theorem zr_168_42 : zSnd 168 42 (o_iload 4 44) := zS_iload (by decide +kernel) rfl
theorem zr_168_44 : zSnd 168 44 (o_iald 45) := zS_iald (by decide +kernel) rfl
theorem zr_168_45 : zSnd 168 45 (o_ceq 65 48) := zS_ceq (by decide +kernel : decode (zmB 168) 45 = .ok (.if_icmp .eq 20, 3)) rfl (by decide)
theorem zr_168_48 : zSnd 168 48 (o_aload 0 49) := zS_aload_n (i := 0) (by decide +kernel) rfl rfl
theorem zr_168_49 : zSnd 168 49 (o_getf 4 12 52) := zS_getf (idx := 36) (by decide +kernel) rfl (by decide) rfl (by decide) rfl zin_4 zq_190
theorem zr_168_52 : zSnd 168 52 (o_iload 4 54) := zS_iload (by decide +kernel) rfl
theorem zr_168_54 : zSnd 168 54 (o_aload 0 55) := zS_aload_n (i := 0) (by decide +kernel) rfl rfl
theorem zr_168_55 : zSnd 168 55 (o_getf 4 13 58) := zS_getf (idx := 39) (by decide +kernel) rfl (by decide) rfl (by decide) rfl zin_4 zq_191
theorem zr_168_58 : zSnd 168 58 (o_iload 4 60) := zS_iload (by decide +kernel) rfl
theorem zr_168_60 : zSnd 168 60 (o_iald 61) := zS_iald (by decide +kernel) rfl
theorem zr_168_61 : zSnd 168 61 (o_iast 62) := zS_iast (by decide +kernel) rfl
theorem zr_168_62 : zSnd 168 62 (o_iinc 1 1 65) := zS_iinc (by decide +kernel) rfl (by decide +kernel)
theorem zr_168_65 : zSnd 168 65 (o_iinc 3 1 68) := zS_iinc (by decide +kernel) rfl (by decide +kernel)
theorem zr_168_68 : zSnd 168 68 (o_goto 14) := zS_goto (by decide +kernel : decode (zmB 168) 68 = .ok (.goto (-54), 3)) (by decide)
theorem zr_168_71 : zSnd 168 71 (o_iinc 2 1 74) := zS_iinc (by decide +kernel) rfl (by decide +kernel)
theorem zr_168_74 : zSnd 168 74 (o_goto 4) := zS_goto (by decide +kernel : decode (zmB 168) 74 = .ok (.goto (-70), 3)) (by decide)
theorem zr_168_77 : zSnd 168 77 (o_iload 1 78) := zS_iload_n (i := 1) (by decide +kernel) rfl rfl
theorem zr_168_78 : zSnd 168 78 (o_iret) := zS_iret (by decide +kernel) (by decide +kernel)
theorem zT_168 (pc : Nat) : zSnd 168 pc (zc_168 pc) := by
  unfold zc_168
  exact (zSn_nd (zSn_nd (zSn_nd (zSn_nd (zSn_nd (zSn_lf zr_168_0) (zSn_lf zr_168_1)) (zSn_nd (zSn_lf zr_168_2) (zSn_nd (zSn_lf zr_168_3) (zSn_lf zr_168_4)))) (zSn_nd (zSn_nd (zSn_lf zr_168_5) (zSn_nd (zSn_lf zr_168_6) (zSn_lf zr_168_9))) (zSn_nd (zSn_lf zr_168_12) (zSn_nd (zSn_lf zr_168_13) (zSn_lf zr_168_14))))) (zSn_nd (zSn_nd (zSn_nd (zSn_lf zr_168_15) (zSn_lf zr_168_16)) (zSn_nd (zSn_lf zr_168_19) (zSn_nd (zSn_lf zr_168_20) (zSn_lf zr_168_21)))) (zSn_nd (zSn_nd (zSn_lf zr_168_24) (zSn_nd (zSn_lf zr_168_25) (zSn_lf zr_168_26))) (zSn_nd (zSn_lf zr_168_29) (zSn_nd (zSn_lf zr_168_31) (zSn_lf zr_168_32)))))) (zSn_nd (zSn_nd (zSn_nd (zSn_nd (zSn_lf zr_168_35) (zSn_lf zr_168_37)) (zSn_nd (zSn_lf zr_168_38) (zSn_nd (zSn_lf zr_168_39) (zSn_lf zr_168_42)))) (zSn_nd (zSn_nd (zSn_lf zr_168_44) (zSn_nd (zSn_lf zr_168_45) (zSn_lf zr_168_48))) (zSn_nd (zSn_lf zr_168_49) (zSn_nd (zSn_lf zr_168_52) (zSn_lf zr_168_54))))) (zSn_nd (zSn_nd (zSn_nd (zSn_lf zr_168_55) (zSn_lf zr_168_58)) (zSn_nd (zSn_lf zr_168_60) (zSn_nd (zSn_lf zr_168_61) (zSn_lf zr_168_62)))) (zSn_nd (zSn_nd (zSn_lf zr_168_65) (zSn_nd (zSn_lf zr_168_68) (zSn_lf zr_168_71))) (zSn_nd (zSn_lf zr_168_74) (zSn_nd (zSn_lf zr_168_77) (zSn_lf zr_168_78)))))))
theorem zr_169_0 : zSnd 169 0 (o_const 0 1) := zS_iconst (by decide +kernel) rfl (by decide)
theorem zr_169_1 : zSnd 169 1 (o_istore 3 2) := zS_istore_n (i := 3) (by decide +kernel) rfl rfl (by decide +kernel)
theorem zr_169_2 : zSnd 169 2 (o_iload 3 3) := zS_iload_n (i := 3) (by decide +kernel) rfl rfl
theorem zr_169_3 : zSnd 169 3 (o_aload 0 4) := zS_aload_n (i := 0) (by decide +kernel) rfl rfl
theorem zr_169_4 : zSnd 169 4 (o_getf 4 1 7) := zS_getf (idx := 46) (by decide +kernel) rfl (by decide) rfl (by decide) rfl zin_4 zq_177
theorem zr_169_7 : zSnd 169 7 (o_cge 79 10) := zS_cge (by decide +kernel : decode (zmB 169) 7 = .ok (.if_icmp .ge 72, 3)) rfl (by decide)
theorem zr_169_10 : zSnd 169 10 (o_const 0 11) := zS_iconst (by decide +kernel) rfl (by decide)
theorem zr_169_11 : zSnd 169 11 (o_istore 4 13) := zS_istore (by decide +kernel) rfl (by decide +kernel)
theorem zr_169_13 : zSnd 169 13 (o_iload 4 15) := zS_iload (by decide +kernel) rfl
theorem zr_169_15 : zSnd 169 15 (o_aload 0 16) := zS_aload_n (i := 0) (by decide +kernel) rfl rfl
theorem zr_169_16 : zSnd 169 16 (o_getf 4 4 19) := zS_getf (idx := 18) (by decide +kernel) rfl (by decide) rfl (by decide) rfl zin_4 zq_184
theorem zr_169_19 : zSnd 169 19 (o_iload 3 20) := zS_iload_n (i := 3) (by decide +kernel) rfl rfl
theorem zr_169_20 : zSnd 169 20 (o_iald 21) := zS_iald (by decide +kernel) rfl
theorem zr_169_21 : zSnd 169 21 (o_cge 73 24) := zS_cge (by decide +kernel : decode (zmB 169) 21 = .ok (.if_icmp .ge 52, 3)) rfl (by decide)
theorem zr_169_24 : zSnd 169 24 (o_iload 3 25) := zS_iload_n (i := 3) (by decide +kernel) rfl rfl
theorem zr_169_25 : zSnd 169 25 (o_iload 4 27) := zS_iload (by decide +kernel) rfl
theorem zr_169_27 : zSnd 169 27 (o_call 35 2 2 1 30) := zS_callSN (idx := 69) (by decide +kernel) rfl zq_193 zq_62 (by decide +kernel) zMk_35 (by decide +kernel) (by decide +kernel) (by decide +kernel)
theorem zr_169_30 : zSnd 169 30 (o_istore 5 32) := zS_istore (by decide +kernel) rfl (by decide +kernel)
theorem zr_169_32 : zSnd 169 32 (o_aload 0 33) := zS_aload_n (i := 0) (by decide +kernel) rfl rfl
theorem zr_169_33 : zSnd 169 33 (o_getf 4 5 36) := zS_getf (idx := 21) (by decide +kernel) rfl (by decide) rfl (by decide) rfl zin_4 zq_185
theorem zr_169_36 : zSnd 169 36 (o_iload 5 38) := zS_iload (by decide +kernel) rfl
theorem zr_169_38 : zSnd 169 38 (o_iald 39) := zS_iald (by decide +kernel) rfl
theorem zr_169_39 : zSnd 169 39 (o_iload 1 40) := zS_iload_n (i := 1) (by decide +kernel) rfl rfl
theorem zr_169_40 : zSnd 169 40 (o_cne 67 43) := zS_cne (by decide +kernel : decode (zmB 169) 40 = .ok (.if_icmp .ne 27, 3)) rfl (by decide)
theorem zr_169_43 : zSnd 169 43 (o_aload 0 44) := zS_aload_n (i := 0) (by decide +kernel) rfl rfl
theorem zr_169_44 : zSnd 169 44 (o_iload 1 45) := zS_iload_n (i := 1) (by decide +kernel) rfl rfl
theorem zr_169_45 : zSnd 169 45 (o_aload 0 46) := zS_aload_n (i := 0) (by decide +kernel) rfl rfl
theorem zr_169_46 : zSnd 169 46 (o_getf 4 13 49) := zS_getf (idx := 39) (by decide +kernel) rfl (by decide) rfl (by decide) rfl zin_4 zq_191
theorem zr_169_49 : zSnd 169 49 (o_iload 5 51) := zS_iload (by decide +kernel) rfl
theorem zr_169_51 : zSnd 169 51 (o_iald 52) := zS_iald (by decide +kernel) rfl
theorem zr_169_52 : zSnd 169 52 (o_callv 4 170 3 7 1 55) := zS_callV (n := 2) (idx := 97) (by decide +kernel) rfl rfl (by decide) rfl zq_202 zq_203 zq_204 (by decide +kernel) zMk_170 (by decide +kernel) (by decide +kernel) (by decide +kernel)
theorem zr_169_55 : zSnd 169 55 (o_iload 2 56) := zS_iload_n (i := 2) (by decide +kernel) rfl rfl
theorem zr_169_56 : zSnd 169 56 (o_cne 67 59) := zS_cne (by decide +kernel : decode (zmB 169) 56 = .ok (.if_icmp .ne 11, 3)) rfl (by decide)
theorem zr_169_59 : zSnd 169 59 (o_const 10 61) := zS_bipush (by decide +kernel) rfl (by decide) (by decide)
theorem zr_169_61 : zSnd 169 61 (o_iload 3 62) := zS_iload_n (i := 3) (by decide +kernel) rfl rfl
theorem zr_169_62 : zSnd 169 62 (o_imul 63) := zS_imul (by decide +kernel) rfl
theorem zr_169_63 : zSnd 169 63 (o_iload 4 65) := zS_iload (by decide +kernel) rfl
theorem zr_169_65 : zSnd 169 65 (o_iadd 66) := zS_iadd (by decide +kernel) rfl
theorem zr_169_66 : zSnd 169 66 (o_iret) := zS_iret (by decide +kernel) (by decide +kernel)
theorem zr_169_67 : zSnd 169 67 (o_iinc 4 1 70) := zS_iinc (by decide +kernel) rfl (by decide +kernel)
theorem zr_169_70 : zSnd 169 70 (o_goto 13) := zS_goto (by decide +kernel : decode (zmB 169) 70 = .ok (.goto (-57), 3)) (by decide)
theorem zr_169_73 : zSnd 169 73 (o_iinc 3 1 76) := zS_iinc (by decide +kernel) rfl (by decide +kernel)
theorem zr_169_76 : zSnd 169 76 (o_goto 2) := zS_goto (by decide +kernel : decode (zmB 169) 76 = .ok (.goto (-74), 3)) (by decide)
theorem zr_169_79 : zSnd 169 79 (o_const (-1) 80) := zS_iconst (by decide +kernel) rfl (by decide)
theorem zr_169_80 : zSnd 169 80 (o_iret) := zS_iret (by decide +kernel) (by decide +kernel)
theorem zT_169 (pc : Nat) : zSnd 169 pc (zc_169 pc) := by
  unfold zc_169
  exact (zSn_nd (zSn_nd (zSn_nd (zSn_nd (zSn_nd (zSn_lf zr_169_0) (zSn_lf zr_169_1)) (zSn_nd (zSn_lf zr_169_2) (zSn_nd (zSn_lf zr_169_3) (zSn_lf zr_169_4)))) (zSn_nd (zSn_nd (zSn_lf zr_169_7) (zSn_nd (zSn_lf zr_169_10) (zSn_lf zr_169_11))) (zSn_nd (zSn_lf zr_169_13) (zSn_nd (zSn_lf zr_169_15) (zSn_lf zr_169_16))))) (zSn_nd (zSn_nd (zSn_nd (zSn_lf zr_169_19) (zSn_lf zr_169_20)) (zSn_nd (zSn_lf zr_169_21) (zSn_nd (zSn_lf zr_169_24) (zSn_lf zr_169_25)))) (zSn_nd (zSn_nd (zSn_lf zr_169_27) (zSn_nd (zSn_lf zr_169_30) (zSn_lf zr_169_32))) (zSn_nd (zSn_lf zr_169_33) (zSn_nd (zSn_lf zr_169_36) (zSn_lf zr_169_38)))))) (zSn_nd (zSn_nd (zSn_nd (zSn_nd (zSn_lf zr_169_39) (zSn_lf zr_169_40)) (zSn_nd (zSn_lf zr_169_43) (zSn_nd (zSn_lf zr_169_44) (zSn_lf zr_169_45)))) (zSn_nd (zSn_nd (zSn_lf zr_169_46) (zSn_nd (zSn_lf zr_169_49) (zSn_lf zr_169_51))) (zSn_nd (zSn_lf zr_169_52) (zSn_nd (zSn_lf zr_169_55) (zSn_lf zr_169_56))))) (zSn_nd (zSn_nd (zSn_nd (zSn_lf zr_169_59) (zSn_nd (zSn_lf zr_169_61) (zSn_lf zr_169_62))) (zSn_nd (zSn_lf zr_169_63) (zSn_nd (zSn_lf zr_169_65) (zSn_lf zr_169_66)))) (zSn_nd (zSn_nd (zSn_lf zr_169_67) (zSn_nd (zSn_lf zr_169_70) (zSn_lf zr_169_73))) (zSn_nd (zSn_lf zr_169_76) (zSn_nd (zSn_lf zr_169_79) (zSn_lf zr_169_80)))))))
theorem zr_170_0 : zSnd 170 0 (o_const 0 1) := zS_iconst (by decide +kernel) rfl (by decide)
theorem zr_170_1 : zSnd 170 1 (o_istore 3 2) := zS_istore_n (i := 3) (by decide +kernel) rfl rfl (by decide +kernel)
theorem zr_170_2 : zSnd 170 2 (o_const 0 3) := zS_iconst (by decide +kernel) rfl (by decide)
theorem zr_170_3 : zSnd 170 3 (o_istore 4 5) := zS_istore (by decide +kernel) rfl (by decide +kernel)
theorem zr_170_5 : zSnd 170 5 (o_iload 4 7) := zS_iload (by decide +kernel) rfl
theorem zr_170_7 : zSnd 170 7 (o_aload 0 8) := zS_aload_n (i := 0) (by decide +kernel) rfl rfl
theorem zr_170_8 : zSnd 170 8 (o_getf 4 1 11) := zS_getf (idx := 46) (by decide +kernel) rfl (by decide) rfl (by decide) rfl zin_4 zq_177
theorem zr_170_11 : zSnd 170 11 (o_cge 75 14) := zS_cge (by decide +kernel : decode (zmB 170) 11 = .ok (.if_icmp .ge 64, 3)) rfl (by decide)
theorem zr_170_14 : zSnd 170 14 (o_const 0 15) := zS_iconst (by decide +kernel) rfl (by decide)
theorem zr_170_15 : zSnd 170 15 (o_istore 5 17) := zS_istore (by decide +kernel) rfl (by decide +kernel)
theorem zr_170_17 : zSnd 170 17 (o_iload 5 19) := zS_iload (by decide +kernel) rfl
theorem zr_170_19 : zSnd 170 19 (o_aload 0 20) := zS_aload_n (i := 0) (by decide +kernel) rfl rfl
theorem zr_170_20 : zSnd 170 20 (o_getf 4 4 23) := zS_getf (idx := 18) (by decide +kernel) rfl (by decide) rfl (by decide) rfl zin_4 zq_184
theorem zr_170_23 : zSnd 170 23 (o_iload 4 25) := zS_iload (by decide +kernel) rfl
theorem zr_170_25 : zSnd 170 25 (o_iald 26) := zS_iald (by decide +kernel) rfl
theorem zr_170_26 : zSnd 170 26 (o_cge 69 29) := zS_cge (by decide +kernel : decode (zmB 170) 26 = .ok (.if_icmp .ge 43, 3)) rfl (by decide)
theorem zr_170_29 : zSnd 170 29 (o_iload 4 31) := zS_iload (by decide +kernel) rfl
theorem zr_170_31 : zSnd 170 31 (o_iload 5 33) := zS_iload (by decide +kernel) rfl
theorem zr_170_33 : zSnd 170 33 (o_call 35 2 2 1 36) := zS_callSN (idx := 69) (by decide +kernel) rfl zq_193 zq_62 (by decide +kernel) zMk_35 (by decide +kernel) (by decide +kernel) (by decide +kernel)
theorem zr_170_36 : zSnd 170 36 (o_istore 6 38) := zS_istore (by decide +kernel) rfl (by decide +kernel)
theorem zr_170_38 : zSnd 170 38 (o_aload 0 39) := zS_aload_n (i := 0) (by decide +kernel) rfl rfl
theorem zr_170_39 : zSnd 170 39 (o_getf 4 5 42) := zS_getf (idx := 21) (by decide +kernel) rfl (by decide) rfl (by decide) rfl zin_4 zq_185
theorem zr_170_42 : zSnd 170 42 (o_iload 6 44) := zS_iload (by decide +kernel) rfl
theorem zr_170_44 : zSnd 170 44 (o_iald 45) := zS_iald (by decide +kernel) rfl
theorem zr_170_45 : zSnd 170 45 (o_iload 1 46) := zS_iload_n (i := 1) (by decide +kernel) rfl rfl
theorem zr_170_46 : zSnd 170 46 (o_cne 63 49) := zS_cne (by decide +kernel : decode (zmB 170) 46 = .ok (.if_icmp .ne 17, 3)) rfl (by decide)
theorem zr_170_49 : zSnd 170 49 (o_aload 0 50) := zS_aload_n (i := 0) (by decide +kernel) rfl rfl
theorem zr_170_50 : zSnd 170 50 (o_getf 4 13 53) := zS_getf (idx := 39) (by decide +kernel) rfl (by decide) rfl (by decide) rfl zin_4 zq_191
theorem zr_170_53 : zSnd 170 53 (o_iload 6 55) := zS_iload (by decide +kernel) rfl
theorem zr_170_55 : zSnd 170 55 (o_iald 56) := zS_iald (by decide +kernel) rfl
theorem zr_170_56 : zSnd 170 56 (o_iload 2 57) := zS_iload_n (i := 2) (by decide +kernel) rfl rfl
theorem zr_170_57 : zSnd 170 57 (o_cge 63 60) := zS_cge (by decide +kernel : decode (zmB 170) 57 = .ok (.if_icmp .ge 6, 3)) rfl (by decide)
theorem zr_170_60 : zSnd 170 60 (o_iinc 3 1 63) := zS_iinc (by decide +kernel) rfl (by decide +kernel)
theorem zr_170_63 : zSnd 170 63 (o_iinc 5 1 66) := zS_iinc (by decide +kernel) rfl (by decide +kernel)
theorem zr_170_66 : zSnd 170 66 (o_goto 17) := zS_goto (by decide +kernel : decode (zmB 170) 66 = .ok (.goto (-49), 3)) (by decide)
theorem zr_170_69 : zSnd 170 69 (o_iinc 4 1 72) := zS_iinc (by decide +kernel) rfl (by decide +kernel)
theorem zr_170_72 : zSnd 170 72 (o_goto 5) := zS_goto (by decide +kernel : decode (zmB 170) 72 = .ok (.goto (-67), 3)) (by decide)
theorem zr_170_75 : zSnd 170 75 (o_iload 3 76) := zS_iload_n (i := 3) (by decide +kernel) rfl rfl
theorem zr_170_76 : zSnd 170 76 (o_iret) := zS_iret (by decide +kernel) (by decide +kernel)
theorem zT_170 (pc : Nat) : zSnd 170 pc (zc_170 pc) := by
  unfold zc_170
  exact (zSn_nd (zSn_nd (zSn_nd (zSn_nd (zSn_nd (zSn_lf zr_170_0) (zSn_lf zr_170_1)) (zSn_nd (zSn_lf zr_170_2) (zSn_lf zr_170_3))) (zSn_nd (zSn_nd (zSn_lf zr_170_5) (zSn_lf zr_170_7)) (zSn_nd (zSn_lf zr_170_8) (zSn_nd (zSn_lf zr_170_11) (zSn_lf zr_170_14))))) (zSn_nd (zSn_nd (zSn_nd (zSn_lf zr_170_15) (zSn_lf zr_170_17)) (zSn_nd (zSn_lf zr_170_19) (zSn_nd (zSn_lf zr_170_20) (zSn_lf zr_170_23)))) (zSn_nd (zSn_nd (zSn_lf zr_170_25) (zSn_lf zr_170_26)) (zSn_nd (zSn_lf zr_170_29) (zSn_nd (zSn_lf zr_170_31) (zSn_lf zr_170_33)))))) (zSn_nd (zSn_nd (zSn_nd (zSn_nd (zSn_lf zr_170_36) (zSn_lf zr_170_38)) (zSn_nd (zSn_lf zr_170_39) (zSn_nd (zSn_lf zr_170_42) (zSn_lf zr_170_44)))) (zSn_nd (zSn_nd (zSn_lf zr_170_45) (zSn_lf zr_170_46)) (zSn_nd (zSn_lf zr_170_49) (zSn_nd (zSn_lf zr_170_50) (zSn_lf zr_170_53))))) (zSn_nd (zSn_nd (zSn_nd (zSn_lf zr_170_55) (zSn_lf zr_170_56)) (zSn_nd (zSn_lf zr_170_57) (zSn_nd (zSn_lf zr_170_60) (zSn_lf zr_170_63)))) (zSn_nd (zSn_nd (zSn_lf zr_170_66) (zSn_lf zr_170_69)) (zSn_nd (zSn_lf zr_170_72) (zSn_nd (zSn_lf zr_170_75) (zSn_lf zr_170_76)))))))
theorem zr_171_0 : zSnd 171 0 (o_iload 0 1) := zS_iload_n (i := 0) (by decide +kernel) rfl rfl
theorem zr_171_1 : zSnd 171 1 (o_const 2147483647 3) := zS_ldc (idx := 9) (by decide +kernel) rfl (by decide) zq_205
theorem zr_171_3 : zSnd 171 3 (o_iand 4) := zS_iand (by decide +kernel) rfl
theorem zr_171_4 : zSnd 171 4 (o_iload 1 5) := zS_iload_n (i := 1) (by decide +kernel) rfl rfl
theorem zr_171_5 : zSnd 171 5 (o_irem 6) := zS_irem (by decide +kernel) rfl
theorem zr_171_6 : zSnd 171 6 (o_iret) := zS_iret (by decide +kernel) (by decide +kernel)
theorem zT_171 (pc : Nat) : zSnd 171 pc (zc_171 pc) := by
  unfold zc_171
  exact (zSn_nd (zSn_nd (zSn_lf zr_171_0) (zSn_nd (zSn_lf zr_171_1) (zSn_lf zr_171_3))) (zSn_nd (zSn_lf zr_171_4) (zSn_nd (zSn_lf zr_171_5) (zSn_lf zr_171_6))))
theorem zr_172_0 : zSnd 172 0 (o_iload 0 1) := zS_iload_n (i := 0) (by decide +kernel) rfl rfl
theorem zr_172_1 : zSnd 172 1 (o_const 4 2) := zS_iconst (by decide +kernel) rfl (by decide)
theorem zr_172_2 : zSnd 172 2 (o_irem 3) := zS_irem (by decide +kernel) rfl
theorem zr_172_3 : zSnd 172 3 (o_aload 1 4) := zS_aload_n (i := 1) (by decide +kernel) rfl rfl
theorem zr_172_4 : zSnd 172 4 (o_const 3 5) := zS_iconst (by decide +kernel) rfl (by decide)
theorem zr_172_5 : zSnd 172 5 (o_iload 0 6) := zS_iload_n (i := 0) (by decide +kernel) rfl rfl
theorem zr_172_6 : zSnd 172 6 (o_const 4 7) := zS_iconst (by decide +kernel) rfl (by decide)
theorem zr_172_7 : zSnd 172 7 (o_idiv 8) := zS_idiv (by decide +kernel) rfl
theorem zr_172_8 : zSnd 172 8 (o_imul 9) := zS_imul (by decide +kernel) rfl
theorem zr_172_9 : zSnd 172 9 (o_const 2 10) := zS_iconst (by decide +kernel) rfl (by decide)
theorem zr_172_10 : zSnd 172 10 (o_iadd 11) := zS_iadd (by decide +kernel) rfl
theorem zr_172_11 : zSnd 172 11 (o_iald 12) := zS_iald (by decide +kernel) rfl
theorem zr_172_12 : zSnd 172 12 (o_cge 19 15) := zS_cge (by decide +kernel : decode (zmB 172) 12 = .ok (.if_icmp .ge 7, 3)) rfl (by decide)
theorem zr_172_15 : zSnd 172 15 (o_const 1 16) := zS_iconst (by decide +kernel) rfl (by decide)
theorem zr_172_16 : zSnd 172 16 (o_goto 20) := zS_goto (by decide +kernel : decode (zmB 172) 16 = .ok (.goto 4, 3)) (by decide)
theorem zr_172_19 : zSnd 172 19 (o_const 0 20) := zS_iconst (by decide +kernel) rfl (by decide)
theorem zr_172_20 : zSnd 172 20 (o_zret) := zS_zret (by decide +kernel) (by decide +kernel)
theorem zT_172 (pc : Nat) : zSnd 172 pc (zc_172 pc) := by
  unfold zc_172
  exact (zSn_nd (zSn_nd (zSn_nd (zSn_nd (zSn_lf zr_172_0) (zSn_lf zr_172_1)) (zSn_nd (zSn_lf zr_172_2) (zSn_lf zr_172_3))) (zSn_nd (zSn_nd (zSn_lf zr_172_4) (zSn_lf zr_172_5)) (zSn_nd (zSn_lf zr_172_6) (zSn_lf zr_172_7)))) (zSn_nd (zSn_nd (zSn_nd (zSn_lf zr_172_8) (zSn_lf zr_172_9)) (zSn_nd (zSn_lf zr_172_10) (zSn_lf zr_172_11))) (zSn_nd (zSn_nd (zSn_lf zr_172_12) (zSn_lf zr_172_15)) (zSn_nd (zSn_lf zr_172_16) (zSn_nd (zSn_lf zr_172_19) (zSn_lf zr_172_20))))))
theorem zr_173_0 : zSnd 173 0 (o_aload 2 1) := zS_aload_n (i := 2) (by decide +kernel) rfl rfl
theorem zr_173_1 : zSnd 173 1 (o_const 4 2) := zS_iconst (by decide +kernel) rfl (by decide)
theorem zr_173_2 : zSnd 173 2 (o_iload 0 3) := zS_iload_n (i := 0) (by decide +kernel) rfl rfl
theorem zr_173_3 : zSnd 173 3 (o_imul 4) := zS_imul (by decide +kernel) rfl
theorem zr_173_4 : zSnd 173 4 (o_iload 1 5) := zS_iload_n (i := 1) (by decide +kernel) rfl rfl
theorem zr_173_5 : zSnd 173 5 (o_iadd 6) := zS_iadd (by decide +kernel) rfl
theorem zr_173_6 : zSnd 173 6 (o_iald 7) := zS_iald (by decide +kernel) rfl
theorem zr_173_7 : zSnd 173 7 (o_aload 2 8) := zS_aload_n (i := 2) (by decide +kernel) rfl rfl
theorem zr_173_8 : zSnd 173 8 (o_const 4 9) := zS_iconst (by decide +kernel) rfl (by decide)
theorem zr_173_9 : zSnd 173 9 (o_iload 0 10) := zS_iload_n (i := 0) (by decide +kernel) rfl rfl
theorem zr_173_10 : zSnd 173 10 (o_imul 11) := zS_imul (by decide +kernel) rfl
theorem zr_173_11 : zSnd 173 11 (o_const 1 12) := zS_iconst (by decide +kernel) rfl (by decide)
theorem zr_173_12 : zSnd 173 12 (o_iadd 13) := zS_iadd (by decide +kernel) rfl
theorem zr_173_13 : zSnd 173 13 (o_iald 14) := zS_iald (by decide +kernel) rfl
theorem zr_173_14 : zSnd 173 14 (o_iadd 15) := zS_iadd (by decide +kernel) rfl
theorem zr_173_15 : zSnd 173 15 (o_iret) := zS_iret (by decide +kernel) (by decide +kernel)
theorem zT_173 (pc : Nat) : zSnd 173 pc (zc_173 pc) := by
  unfold zc_173
  exact (zSn_nd (zSn_nd (zSn_nd (zSn_nd (zSn_lf zr_173_0) (zSn_lf zr_173_1)) (zSn_nd (zSn_lf zr_173_2) (zSn_lf zr_173_3))) (zSn_nd (zSn_nd (zSn_lf zr_173_4) (zSn_lf zr_173_5)) (zSn_nd (zSn_lf zr_173_6) (zSn_lf zr_173_7)))) (zSn_nd (zSn_nd (zSn_nd (zSn_lf zr_173_8) (zSn_lf zr_173_9)) (zSn_nd (zSn_lf zr_173_10) (zSn_lf zr_173_11))) (zSn_nd (zSn_nd (zSn_lf zr_173_12) (zSn_lf zr_173_13)) (zSn_nd (zSn_lf zr_173_14) (zSn_lf zr_173_15)))))
theorem zr_174_0 : zSnd 174 0 (o_const 0 1) := zS_iconst (by decide +kernel) rfl (by decide)
theorem zr_174_1 : zSnd 174 1 (o_istore 5 3) := zS_istore (by decide +kernel) rfl (by decide +kernel)
theorem zr_174_3 : zSnd 174 3 (o_const 0 4) := zS_iconst (by decide +kernel) rfl (by decide)
theorem zr_174_4 : zSnd 174 4 (o_istore 6 6) := zS_istore (by decide +kernel) rfl (by decide +kernel)
theorem zr_174_6 : zSnd 174 6 (o_iload 6 8) := zS_iload (by decide +kernel) rfl
theorem zr_174_8 : zSnd 174 8 (o_aload 2 9) := zS_aload_n (i := 2) (by decide +kernel) rfl rfl
theorem zr_174_9 : zSnd 174 9 (o_const 0 10) := zS_iconst (by decide +kernel) rfl (by decide)
theorem zr_174_10 : zSnd 174 10 (o_iald 11) := zS_iald (by decide +kernel) rfl
theorem zr_174_11 : zSnd 174 11 (o_cge 91 14) := zS_cge (by decide +kernel : decode (zmB 174) 11 = .ok (.if_icmp .ge 80, 3)) rfl (by decide)
theorem zr_174_14 : zSnd 174 14 (o_iload 5 16) := zS_iload (by decide +kernel) rfl
theorem zr_174_16 : zSnd 174 16 (o_ifne 78 19) := zS_ifne (by decide +kernel : decode (zmB 174) 16 = .ok (.ifCond .ne 62, 3)) rfl (by decide)
theorem zr_174_19 : zSnd 174 19 (o_aload 4 21) := zS_aload (by decide +kernel) rfl
theorem zr_174_21 : zSnd 174 21 (o_const 3 22) := zS_iconst (by decide +kernel) rfl (by decide)
theorem zr_174_22 : zSnd 174 22 (o_iload 6 24) := zS_iload (by decide +kernel) rfl
theorem zr_174_24 : zSnd 174 24 (o_imul 25) := zS_imul (by decide +kernel) rfl
theorem zr_174_25 : zSnd 174 25 (o_iald 26) := zS_iald (by decide +kernel) rfl
theorem zr_174_26 : zSnd 174 26 (o_aload 3 27) := zS_aload_n (i := 3) (by decide +kernel) rfl rfl
theorem zr_174_27 : zSnd 174 27 (o_const 4 28) := zS_iconst (by decide +kernel) rfl (by decide)
theorem zr_174_28 : zSnd 174 28 (o_iload 0 29) := zS_iload_n (i := 0) (by decide +kernel) rfl rfl
theorem zr_174_29 : zSnd 174 29 (o_imul 30) := zS_imul (by decide +kernel) rfl
theorem zr_174_30 : zSnd 174 30 (o_iald 31) := zS_iald (by decide +kernel) rfl
theorem zr_174_31 : zSnd 174 31 (o_cne 82 34) := zS_cne (by decide +kernel : decode (zmB 174) 31 = .ok (.if_icmp .ne 51, 3)) rfl (by decide)
theorem zr_174_34 : zSnd 174 34 (o_iload 1 35) := zS_iload_n (i := 1) (by decide +kernel) rfl rfl
theorem zr_174_35 : zSnd 174 35 (o_aload 4 37) := zS_aload (by decide +kernel) rfl
theorem zr_174_37 : zSnd 174 37 (o_const 3 38) := zS_iconst (by decide +kernel) rfl (by decide)
theorem zr_174_38 : zSnd 174 38 (o_iload 6 40) := zS_iload (by decide +kernel) rfl
theorem zr_174_40 : zSnd 174 40 (o_imul 41) := zS_imul (by decide +kernel) rfl
theorem zr_174_41 : zSnd 174 41 (o_const 1 42) := zS_iconst (by decide +kernel) rfl (by decide)
theorem zr_174_42 : zSnd 174 42 (o_iadd 43) := zS_iadd (by decide +kernel) rfl
theorem zr_174_43 : zSnd 174 43 (o_iald 44) := zS_iald (by decide +kernel) rfl
theorem zr_174_44 : zSnd 174 44 (o_aload 4 46) := zS_aload (by decide +kernel) rfl
theorem zr_174_46 : zSnd 174 46 (o_const 3 47) := zS_iconst (by decide +kernel) rfl (by decide)
theorem zr_174_47 : zSnd 174 47 (o_iload 6 49) := zS_iload (by decide +kernel) rfl
theorem zr_174_49 : zSnd 174 49 (o_imul 50) := zS_imul (by decide +kernel) rfl
theorem zr_174_50 : zSnd 174 50 (o_const 2 51) := zS_iconst (by decide +kernel) rfl (by decide)
theorem zr_174_51 : zSnd 174 51 (o_iadd 52) := zS_iadd (by decide +kernel) rfl
theorem zr_174_52 : zSnd 174 52 (o_iald 53) := zS_iald (by decide +kernel) rfl
theorem zr_174_53 : zSnd 174 53 (o_iadd 54) := zS_iadd (by decide +kernel) rfl
theorem zr_174_54 : zSnd 174 54 (o_cge 82 57) := zS_cge (by decide +kernel : decode (zmB 174) 54 = .ok (.if_icmp .ge 28, 3)) rfl (by decide)
theorem zr_174_57 : zSnd 174 57 (o_iload 1 58) := zS_iload_n (i := 1) (by decide +kernel) rfl rfl
theorem zr_174_58 : zSnd 174 58 (o_aload 3 59) := zS_aload_n (i := 3) (by decide +kernel) rfl rfl
theorem zr_174_59 : zSnd 174 59 (o_const 4 60) := zS_iconst (by decide +kernel) rfl (by decide)
theorem zr_174_60 : zSnd 174 60 (o_iload 0 61) := zS_iload_n (i := 0) (by decide +kernel) rfl rfl
theorem zr_174_61 : zSnd 174 61 (o_imul 62) := zS_imul (by decide +kernel) rfl
theorem zr_174_62 : zSnd 174 62 (o_const 1 63) := zS_iconst (by decide +kernel) rfl (by decide)
theorem zr_174_63 : zSnd 174 63 (o_iadd 64) := zS_iadd (by decide +kernel) rfl
theorem zr_174_64 : zSnd 174 64 (o_iald 65) := zS_iald (by decide +kernel) rfl
theorem zr_174_65 : zSnd 174 65 (o_iadd 66) := zS_iadd (by decide +kernel) rfl
theorem zr_174_66 : zSnd 174 66 (o_aload 4 68) := zS_aload (by decide +kernel) rfl
theorem zr_174_68 : zSnd 174 68 (o_const 3 69) := zS_iconst (by decide +kernel) rfl (by decide)
theorem zr_174_69 : zSnd 174 69 (o_iload 6 71) := zS_iload (by decide +kernel) rfl
theorem zr_174_71 : zSnd 174 71 (o_imul 72) := zS_imul (by decide +kernel) rfl
theorem zr_174_72 : zSnd 174 72 (o_const 1 73) := zS_iconst (by decide +kernel) rfl (by decide)
theorem zr_174_73 : zSnd 174 73 (o_iadd 74) := zS_iadd (by decide +kernel) rfl
theorem zr_174_74 : zSnd 174 74 (o_iald 75) := zS_iald (by decide +kernel) rfl
theorem zr_174_75 : zSnd 174 75 (o_cle 82 78) := zS_cle (by decide +kernel : decode (zmB 174) 75 = .ok (.if_icmp .le 7, 3)) rfl (by decide)
theorem zr_174_78 : zSnd 174 78 (o_const 1 79) := zS_iconst (by decide +kernel) rfl (by decide)
theorem zr_174_79 : zSnd 174 79 (o_goto 83) := zS_goto (by decide +kernel : decode (zmB 174) 79 = .ok (.goto 4, 3)) (by decide)
theorem zr_174_82 : zSnd 174 82 (o_const 0 83) := zS_iconst (by decide +kernel) rfl (by decide)
theorem zr_174_83 : zSnd 174 83 (o_istore 5 85) := zS_istore (by decide +kernel) rfl (by decide +kernel)
theorem zr_174_85 : zSnd 174 85 (o_iinc 6 1 88) := zS_iinc (by decide +kernel) rfl (by decide +kernel)
theorem zr_174_88 : zSnd 174 88 (o_goto 6) := zS_goto (by decide +kernel : decode (zmB 174) 88 = .ok (.goto (-82), 3)) (by decide)
theorem zr_174_91 : zSnd 174 91 (o_iload 5 93) := zS_iload (by decide +kernel) rfl
theorem zr_174_93 : zSnd 174 93 (o_zret) := zS_zret (by decide +kernel) (by decide +kernel)
theorem zT_174 (pc : Nat) : zSnd 174 pc (zc_174 pc) := by
  unfold zc_174
  exact (zSn_nd (zSn_nd (zSn_nd (zSn_nd (zSn_nd (zSn_nd (zSn_lf zr_174_0) (zSn_lf zr_174_1)) (zSn_nd (zSn_lf zr_174_3) (zSn_lf zr_174_4))) (zSn_nd (zSn_nd (zSn_lf zr_174_6) (zSn_lf zr_174_8)) (zSn_nd (zSn_lf zr_174_9) (zSn_lf zr_174_10)))) (zSn_nd (zSn_nd (zSn_nd (zSn_lf zr_174_11) (zSn_lf zr_174_14)) (zSn_nd (zSn_lf zr_174_16) (zSn_lf zr_174_19))) (zSn_nd (zSn_nd (zSn_lf zr_174_21) (zSn_lf zr_174_22)) (zSn_nd (zSn_lf zr_174_24) (zSn_lf zr_174_25))))) (zSn_nd (zSn_nd (zSn_nd (zSn_nd (zSn_lf zr_174_26) (zSn_lf zr_174_27)) (zSn_nd (zSn_lf zr_174_28) (zSn_lf zr_174_29))) (zSn_nd (zSn_nd (zSn_lf zr_174_30) (zSn_lf zr_174_31)) (zSn_nd (zSn_lf zr_174_34) (zSn_lf zr_174_35)))) (zSn_nd (zSn_nd (zSn_nd (zSn_lf zr_174_37) (zSn_lf zr_174_38)) (zSn_nd (zSn_lf zr_174_40) (zSn_lf zr_174_41))) (zSn_nd (zSn_nd (zSn_lf zr_174_42) (zSn_lf zr_174_43)) (zSn_nd (zSn_lf zr_174_44) (zSn_lf zr_174_46)))))) (zSn_nd (zSn_nd (zSn_nd (zSn_nd (zSn_nd (zSn_lf zr_174_47) (zSn_lf zr_174_49)) (zSn_nd (zSn_lf zr_174_50) (zSn_lf zr_174_51))) (zSn_nd (zSn_nd (zSn_lf zr_174_52) (zSn_lf zr_174_53)) (zSn_nd (zSn_lf zr_174_54) (zSn_lf zr_174_57)))) (zSn_nd (zSn_nd (zSn_nd (zSn_lf zr_174_58) (zSn_lf zr_174_59)) (zSn_nd (zSn_lf zr_174_60) (zSn_lf zr_174_61))) (zSn_nd (zSn_nd (zSn_lf zr_174_62) (zSn_lf zr_174_63)) (zSn_nd (zSn_lf zr_174_64) (zSn_lf zr_174_65))))) (zSn_nd (zSn_nd (zSn_nd (zSn_nd (zSn_lf zr_174_66) (zSn_lf zr_174_68)) (zSn_nd (zSn_lf zr_174_69) (zSn_lf zr_174_71))) (zSn_nd (zSn_nd (zSn_lf zr_174_72) (zSn_lf zr_174_73)) (zSn_nd (zSn_lf zr_174_74) (zSn_lf zr_174_75)))) (zSn_nd (zSn_nd (zSn_nd (zSn_lf zr_174_78) (zSn_lf zr_174_79)) (zSn_nd (zSn_lf zr_174_82) (zSn_lf zr_174_83))) (zSn_nd (zSn_nd (zSn_lf zr_174_85) (zSn_lf zr_174_88)) (zSn_nd (zSn_lf zr_174_91) (zSn_lf zr_174_93)))))))
theorem zr_175_0 : zSnd 175 0 (o_iload 1 1) := zS_iload_n (i := 1) (by decide +kernel) rfl rfl
theorem zr_175_1 : zSnd 175 1 (o_istore 5 3) := zS_istore (by decide +kernel) rfl (by decide +kernel)
theorem zr_175_3 : zSnd 175 3 (o_iload 0 4) := zS_iload_n (i := 0) (by decide +kernel) rfl rfl
theorem zr_175_4 : zSnd 175 4 (o_iload 5 6) := zS_iload (by decide +kernel) rfl
theorem zr_175_6 : zSnd 175 6 (o_aload 2 7) := zS_aload_n (i := 2) (by decide +kernel) rfl rfl
theorem zr_175_7 : zSnd 175 7 (o_aload 3 8) := zS_aload_n (i := 3) (by decide +kernel) rfl rfl
theorem zr_175_8 : zSnd 175 8 (o_aload 4 10) := zS_aload (by decide +kernel) rfl
theorem zr_175_10 : zSnd 175 10 (o_call 174 5 7 1 13) := zS_callS (idx := 10) (by decide +kernel) rfl zq_206 zq_207 (by decide +kernel) zMk_174 (by decide +kernel) (by decide +kernel) (by decide +kernel)
theorem zr_175_13 : zSnd 175 13 (o_ifeq 22 16) := zS_ifeq (by decide +kernel : decode (zmB 175) 13 = .ok (.ifCond .eq 9, 3)) rfl (by decide)
theorem zr_175_16 : zSnd 175 16 (o_iinc 5 1 19) := zS_iinc (by decide +kernel) rfl (by decide +kernel)
theorem zr_175_19 : zSnd 175 19 (o_goto 3) := zS_goto (by decide +kernel : decode (zmB 175) 19 = .ok (.goto (-16), 3)) (by decide)
theorem zr_175_22 : zSnd 175 22 (o_iload 5 24) := zS_iload (by decide +kernel) rfl
theorem zr_175_24 : zSnd 175 24 (o_iret) := zS_iret (by decide +kernel) (by decide +kernel)
theorem zT_175 (pc : Nat) : zSnd 175 pc (zc_175 pc) := by
  unfold zc_175
  exact (zSn_nd (zSn_nd (zSn_nd (zSn_lf zr_175_0) (zSn_nd (zSn_lf zr_175_1) (zSn_lf zr_175_3))) (zSn_nd (zSn_lf zr_175_4) (zSn_nd (zSn_lf zr_175_6) (zSn_lf zr_175_7)))) (zSn_nd (zSn_nd (zSn_lf zr_175_8) (zSn_nd (zSn_lf zr_175_10) (zSn_lf zr_175_13))) (zSn_nd (zSn_nd (zSn_lf zr_175_16) (zSn_lf zr_175_19)) (zSn_nd (zSn_lf zr_175_22) (zSn_lf zr_175_24)))))
theorem zr_176_0 : zSnd 176 0 (o_iload 0 1) := zS_iload_n (i := 0) (by decide +kernel) rfl rfl
theorem zr_176_1 : zSnd 176 1 (o_const 4 2) := zS_iconst (by decide +kernel) rfl (by decide)
theorem zr_176_2 : zSnd 176 2 (o_idiv 3) := zS_idiv (by decide +kernel) rfl
theorem zr_176_3 : zSnd 176 3 (o_istore 4 5) := zS_istore (by decide +kernel) rfl (by decide +kernel)
theorem zr_176_5 : zSnd 176 5 (o_iload 1 6) := zS_iload_n (i := 1) (by decide +kernel) rfl rfl
theorem zr_176_6 : zSnd 176 6 (o_ifne 19 9) := zS_ifne (by decide +kernel : decode (zmB 176) 6 = .ok (.ifCond .ne 13, 3)) rfl (by decide)
theorem zr_176_9 : zSnd 176 9 (o_aload 3 10) := zS_aload_n (i := 3) (by decide +kernel) rfl rfl
theorem zr_176_10 : zSnd 176 10 (o_const 4 11) := zS_iconst (by decide +kernel) rfl (by decide)
theorem zr_176_11 : zSnd 176 11 (o_iload 0 12) := zS_iload_n (i := 0) (by decide +kernel) rfl rfl
theorem zr_176_12 : zSnd 176 12 (o_imul 13) := zS_imul (by decide +kernel) rfl
theorem zr_176_13 : zSnd 176 13 (o_const 1 14) := zS_iconst (by decide +kernel) rfl (by decide)
theorem zr_176_14 : zSnd 176 14 (o_iadd 15) := zS_iadd (by decide +kernel) rfl
theorem zr_176_15 : zSnd 176 15 (o_iald 16) := zS_iald (by decide +kernel) rfl
theorem zr_176_16 : zSnd 176 16 (o_goto 64) := zS_goto (by decide +kernel : decode (zmB 176) 16 = .ok (.goto 48, 3)) (by decide)
theorem zr_176_19 : zSnd 176 19 (o_iload 1 20) := zS_iload_n (i := 1) (by decide +kernel) rfl rfl
theorem zr_176_20 : zSnd 176 20 (o_const 1 21) := zS_iconst (by decide +kernel) rfl (by decide)
theorem zr_176_21 : zSnd 176 21 (o_cne 35 24) := zS_cne (by decide +kernel : decode (zmB 176) 21 = .ok (.if_icmp .ne 14, 3)) rfl (by decide)
theorem zr_176_24 : zSnd 176 24 (o_aload 2 25) := zS_aload_n (i := 2) (by decide +kernel) rfl rfl
theorem zr_176_25 : zSnd 176 25 (o_const 3 26) := zS_iconst (by decide +kernel) rfl (by decide)
theorem zr_176_26 : zSnd 176 26 (o_iload 4 28) := zS_iload (by decide +kernel) rfl
theorem zr_176_28 : zSnd 176 28 (o_imul 29) := zS_imul (by decide +kernel) rfl
theorem zr_176_29 : zSnd 176 29 (o_const 1 30) := zS_iconst (by decide +kernel) rfl (by decide)
theorem zr_176_30 : zSnd 176 30 (o_iadd 31) := zS_iadd (by decide +kernel) rfl
theorem zr_176_31 : zSnd 176 31 (o_iald 32) := zS_iald (by decide +kernel) rfl
theorem zr_176_32 : zSnd 176 32 (o_goto 64) := zS_goto (by decide +kernel : decode (zmB 176) 32 = .ok (.goto 32, 3)) (by decide)
theorem zr_176_35 : zSnd 176 35 (o_iload 1 36) := zS_iload_n (i := 1) (by decide +kernel) rfl rfl
theorem zr_176_36 : zSnd 176 36 (o_const 2 37) := zS_iconst (by decide +kernel) rfl (by decide)
theorem zr_176_37 : zSnd 176 37 (o_cne 52 40) := zS_cne (by decide +kernel : decode (zmB 176) 37 = .ok (.if_icmp .ne 15, 3)) rfl (by decide)
theorem zr_176_40 : zSnd 176 40 (o_const 9 42) := zS_bipush (by decide +kernel) rfl (by decide) (by decide)
theorem zr_176_42 : zSnd 176 42 (o_aload 2 43) := zS_aload_n (i := 2) (by decide +kernel) rfl rfl
theorem zr_176_43 : zSnd 176 43 (o_const 3 44) := zS_iconst (by decide +kernel) rfl (by decide)
theorem zr_176_44 : zSnd 176 44 (o_iload 4 46) := zS_iload (by decide +kernel) rfl
theorem zr_176_46 : zSnd 176 46 (o_imul 47) := zS_imul (by decide +kernel) rfl
theorem zr_176_47 : zSnd 176 47 (o_iald 48) := zS_iald (by decide +kernel) rfl
theorem zr_176_48 : zSnd 176 48 (o_isub 49) := zS_isub (by decide +kernel) rfl
theorem zr_176_49 : zSnd 176 49 (o_goto 64) := zS_goto (by decide +kernel : decode (zmB 176) 49 = .ok (.goto 15, 3)) (by decide)
theorem zr_176_52 : zSnd 176 52 (o_aload 2 53) := zS_aload_n (i := 2) (by decide +kernel) rfl rfl
theorem zr_176_53 : zSnd 176 53 (o_const 3 54) := zS_iconst (by decide +kernel) rfl (by decide)
theorem zr_176_54 : zSnd 176 54 (o_iload 4 56) := zS_iload (by decide +kernel) rfl
theorem zr_176_56 : zSnd 176 56 (o_imul 57) := zS_imul (by decide +kernel) rfl
theorem zr_176_57 : zSnd 176 57 (o_const 2 58) := zS_iconst (by decide +kernel) rfl (by decide)
theorem zr_176_58 : zSnd 176 58 (o_iadd 59) := zS_iadd (by decide +kernel) rfl
theorem zr_176_59 : zSnd 176 59 (o_iald 60) := zS_iald (by decide +kernel) rfl
theorem zr_176_60 : zSnd 176 60 (o_iload 0 61) := zS_iload_n (i := 0) (by decide +kernel) rfl rfl
theorem zr_176_61 : zSnd 176 61 (o_const 4 62) := zS_iconst (by decide +kernel) rfl (by decide)
theorem zr_176_62 : zSnd 176 62 (o_irem 63) := zS_irem (by decide +kernel) rfl
theorem zr_176_63 : zSnd 176 63 (o_isub 64) := zS_isub (by decide +kernel) rfl
theorem zr_176_64 : zSnd 176 64 (o_iret) := zS_iret (by decide +kernel) (by decide +kernel)
theorem zT_176 (pc : Nat) : zSnd 176 pc (zc_176 pc) := by
  unfold zc_176
  exact (zSn_nd (zSn_nd (zSn_nd (zSn_nd (zSn_nd (zSn_lf zr_176_0) (zSn_nd (zSn_lf zr_176_1) (zSn_lf zr_176_2))) (zSn_nd (zSn_lf zr_176_3) (zSn_nd (zSn_lf zr_176_5) (zSn_lf zr_176_6)))) (zSn_nd (zSn_nd (zSn_lf zr_176_9) (zSn_nd (zSn_lf zr_176_10) (zSn_lf zr_176_11))) (zSn_nd (zSn_lf zr_176_12) (zSn_nd (zSn_lf zr_176_13) (zSn_lf zr_176_14))))) (zSn_nd (zSn_nd (zSn_nd (zSn_lf zr_176_15) (zSn_nd (zSn_lf zr_176_16) (zSn_lf zr_176_19))) (zSn_nd (zSn_lf zr_176_20) (zSn_nd (zSn_lf zr_176_21) (zSn_lf zr_176_24)))) (zSn_nd (zSn_nd (zSn_lf zr_176_25) (zSn_nd (zSn_lf zr_176_26) (zSn_lf zr_176_28))) (zSn_nd (zSn_lf zr_176_29) (zSn_nd (zSn_lf zr_176_30) (zSn_lf zr_176_31)))))) (zSn_nd (zSn_nd (zSn_nd (zSn_nd (zSn_lf zr_176_32) (zSn_nd (zSn_lf zr_176_35) (zSn_lf zr_176_36))) (zSn_nd (zSn_lf zr_176_37) (zSn_nd (zSn_lf zr_176_40) (zSn_lf zr_176_42)))) (zSn_nd (zSn_nd (zSn_lf zr_176_43) (zSn_nd (zSn_lf zr_176_44) (zSn_lf zr_176_46))) (zSn_nd (zSn_lf zr_176_47) (zSn_nd (zSn_lf zr_176_48) (zSn_lf zr_176_49))))) (zSn_nd (zSn_nd (zSn_nd (zSn_lf zr_176_52) (zSn_nd (zSn_lf zr_176_53) (zSn_lf zr_176_54))) (zSn_nd (zSn_lf zr_176_56) (zSn_nd (zSn_lf zr_176_57) (zSn_lf zr_176_58)))) (zSn_nd (zSn_nd (zSn_lf zr_176_59) (zSn_nd (zSn_lf zr_176_60) (zSn_lf zr_176_61))) (zSn_nd (zSn_lf zr_176_62) (zSn_nd (zSn_lf zr_176_63) (zSn_lf zr_176_64)))))))
