/-! ===== 11: a row for each step (written by a program) ===== -/
theorem zr_68_0 : zSnd 68 0 (o_const 0 1) := zS_iconst (by decide +kernel) rfl (by decide)
theorem zr_68_1 : zSnd 68 1 (o_istore 2 2) := zS_istore_n (i := 2) (by decide +kernel) rfl rfl (by decide +kernel)
theorem zr_68_2 : zSnd 68 2 (o_iload 2 3) := zS_iload_n (i := 2) (by decide +kernel) rfl rfl
theorem zr_68_3 : zSnd 68 3 (o_aload 0 4) := zS_aload_n (i := 0) (by decide +kernel) rfl rfl
theorem zr_68_4 : zSnd 68 4 (o_getf 6 1 7) := zS_getf (idx := 7) (by decide +kernel) rfl (by decide) rfl (by decide) rfl zin_6 zq_180
theorem zr_68_7 : zSnd 68 7 (o_const 1 8) := zS_iconst (by decide +kernel) rfl (by decide)
theorem zr_68_8 : zSnd 68 8 (o_iald 9) := zS_iald (by decide +kernel) rfl
theorem zr_68_9 : zSnd 68 9 (o_cge 49 12) := zS_cge (by decide +kernel : decode (zmB 68) 9 = .ok (.if_icmp .ge 40, 3)) rfl (by decide)
theorem zr_68_12 : zSnd 68 12 (o_const 0 13) := zS_iconst (by decide +kernel) rfl (by decide)
theorem zr_68_13 : zSnd 68 13 (o_istore 3 14) := zS_istore_n (i := 3) (by decide +kernel) rfl rfl (by decide +kernel)
theorem zr_68_14 : zSnd 68 14 (o_iload 3 15) := zS_iload_n (i := 3) (by decide +kernel) rfl rfl
theorem zr_68_15 : zSnd 68 15 (o_aload 0 16) := zS_aload_n (i := 0) (by decide +kernel) rfl rfl
theorem zr_68_16 : zSnd 68 16 (o_iload 2 17) := zS_iload_n (i := 2) (by decide +kernel) rfl rfl
theorem zr_68_17 : zSnd 68 17 (o_const 2 18) := zS_iconst (by decide +kernel) rfl (by decide)
theorem zr_68_18 : zSnd 68 18 (o_callv 6 42 3 3 1 21) := zS_callV (n := 2) (idx := 45) (by decide +kernel) rfl rfl (by decide) rfl zq_190 zq_191 zq_192 (by decide +kernel) zMk_42 (by decide +kernel) (by decide +kernel) (by decide +kernel)
theorem zr_68_21 : zSnd 68 21 (o_cge 43 24) := zS_cge (by decide +kernel : decode (zmB 68) 21 = .ok (.if_icmp .ge 22, 3)) rfl (by decide)
theorem zr_68_24 : zSnd 68 24 (o_aload 0 25) := zS_aload_n (i := 0) (by decide +kernel) rfl rfl
theorem zr_68_25 : zSnd 68 25 (o_getf 6 1 28) := zS_getf (idx := 7) (by decide +kernel) rfl (by decide) rfl (by decide) rfl zin_6 zq_180
theorem zr_68_28 : zSnd 68 28 (o_iload 2 29) := zS_iload_n (i := 2) (by decide +kernel) rfl rfl
theorem zr_68_29 : zSnd 68 29 (o_iload 3 30) := zS_iload_n (i := 3) (by decide +kernel) rfl rfl
theorem zr_68_30 : zSnd 68 30 (o_call 43 2 2 1 33) := zS_callS (idx := 37) (by decide +kernel) rfl zq_185 zq_186 (by decide +kernel) zMk_43 (by decide +kernel) (by decide +kernel) (by decide +kernel)
theorem zr_68_33 : zSnd 68 33 (o_const 3 34) := zS_iconst (by decide +kernel) rfl (by decide)
theorem zr_68_34 : zSnd 68 34 (o_iadd 35) := zS_iadd (by decide +kernel) rfl
theorem zr_68_35 : zSnd 68 35 (o_const (-1) 36) := zS_iconst (by decide +kernel) rfl (by decide)
theorem zr_68_36 : zSnd 68 36 (o_iast 37) := zS_iast (by decide +kernel) rfl
theorem zr_68_37 : zSnd 68 37 (o_iinc 3 1 40) := zS_iinc (by decide +kernel) rfl (by decide +kernel)
theorem zr_68_40 : zSnd 68 40 (o_goto 14) := zS_goto (by decide +kernel : decode (zmB 68) 40 = .ok (.goto (-26), 3)) (by decide)
theorem zr_68_43 : zSnd 68 43 (o_iinc 2 1 46) := zS_iinc (by decide +kernel) rfl (by decide +kernel)
theorem zr_68_46 : zSnd 68 46 (o_goto 2) := zS_goto (by decide +kernel : decode (zmB 68) 46 = .ok (.goto (-44), 3)) (by decide)
theorem zr_68_49 : zSnd 68 49 (o_aload 0 50) := zS_aload_n (i := 0) (by decide +kernel) rfl rfl
theorem zr_68_50 : zSnd 68 50 (o_iload 1 51) := zS_iload_n (i := 1) (by decide +kernel) rfl rfl
theorem zr_68_51 : zSnd 68 51 (o_const 0 52) := zS_iconst (by decide +kernel) rfl (by decide)
theorem zr_68_52 : zSnd 68 52 (o_callv 6 64 3 11 0 55) := zS_callV (n := 2) (idx := 101) (by decide +kernel) rfl rfl (by decide) rfl zq_244 zq_245 zq_246 (by decide +kernel) zMk_64 (by decide +kernel) (by decide +kernel) (by decide +kernel)
theorem zr_68_55 : zSnd 68 55 (o_aload 0 56) := zS_aload_n (i := 0) (by decide +kernel) rfl rfl
theorem zr_68_56 : zSnd 68 56 (o_const 3 57) := zS_iconst (by decide +kernel) rfl (by decide)
theorem zr_68_57 : zSnd 68 57 (o_const 2 58) := zS_iconst (by decide +kernel) rfl (by decide)
theorem zr_68_58 : zSnd 68 58 (o_callv 6 67 3 6 1 61) := zS_callV (n := 2) (idx := 105) (by decide +kernel) rfl rfl (by decide) rfl zq_247 zq_248 zq_249 (by decide +kernel) zMk_67 (by decide +kernel) (by decide +kernel) (by decide +kernel)
theorem zr_68_61 : zSnd 68 61 (o_pop 62) := zS_pop (by decide +kernel) rfl
theorem zr_68_62 : zSnd 68 62 (o_aload 0 63) := zS_aload_n (i := 0) (by decide +kernel) rfl rfl
theorem zr_68_63 : zSnd 68 63 (o_getf 6 1 66) := zS_getf (idx := 7) (by decide +kernel) rfl (by decide) rfl (by decide) rfl zin_6 zq_180
theorem zr_68_66 : zSnd 68 66 (o_const 3 67) := zS_iconst (by decide +kernel) rfl (by decide)
theorem zr_68_67 : zSnd 68 67 (o_const 1 68) := zS_iconst (by decide +kernel) rfl (by decide)
theorem zr_68_68 : zSnd 68 68 (o_iast 69) := zS_iast (by decide +kernel) rfl
theorem zr_68_69 : zSnd 68 69 (o_ret) := zS_ret (by decide +kernel) (by decide +kernel)
theorem zT_68 (pc : Nat) : zSnd 68 pc (zc_68 pc) := by
  unfold zc_68
  exact (zSn_nd (zSn_nd (zSn_nd (zSn_nd (zSn_nd (zSn_lf zr_68_0) (zSn_lf zr_68_1)) (zSn_nd (zSn_lf zr_68_2) (zSn_nd (zSn_lf zr_68_3) (zSn_lf zr_68_4)))) (zSn_nd (zSn_nd (zSn_lf zr_68_7) (zSn_nd (zSn_lf zr_68_8) (zSn_lf zr_68_9))) (zSn_nd (zSn_lf zr_68_12) (zSn_nd (zSn_lf zr_68_13) (zSn_lf zr_68_14))))) (zSn_nd (zSn_nd (zSn_nd (zSn_lf zr_68_15) (zSn_lf zr_68_16)) (zSn_nd (zSn_lf zr_68_17) (zSn_nd (zSn_lf zr_68_18) (zSn_lf zr_68_21)))) (zSn_nd (zSn_nd (zSn_lf zr_68_24) (zSn_nd (zSn_lf zr_68_25) (zSn_lf zr_68_28))) (zSn_nd (zSn_lf zr_68_29) (zSn_nd (zSn_lf zr_68_30) (zSn_lf zr_68_33)))))) (zSn_nd (zSn_nd (zSn_nd (zSn_nd (zSn_lf zr_68_34) (zSn_lf zr_68_35)) (zSn_nd (zSn_lf zr_68_36) (zSn_nd (zSn_lf zr_68_37) (zSn_lf zr_68_40)))) (zSn_nd (zSn_nd (zSn_lf zr_68_43) (zSn_nd (zSn_lf zr_68_46) (zSn_lf zr_68_49))) (zSn_nd (zSn_lf zr_68_50) (zSn_nd (zSn_lf zr_68_51) (zSn_lf zr_68_52))))) (zSn_nd (zSn_nd (zSn_nd (zSn_lf zr_68_55) (zSn_lf zr_68_56)) (zSn_nd (zSn_lf zr_68_57) (zSn_nd (zSn_lf zr_68_58) (zSn_lf zr_68_61)))) (zSn_nd (zSn_nd (zSn_lf zr_68_62) (zSn_nd (zSn_lf zr_68_63) (zSn_lf zr_68_66))) (zSn_nd (zSn_lf zr_68_67) (zSn_nd (zSn_lf zr_68_68) (zSn_lf zr_68_69)))))))
theorem zr_69_0 : zSnd 69 0 (o_iload 0 1) := zS_iload_n (i := 0) (by decide +kernel) rfl rfl
theorem zr_69_1 : zSnd 69 1 (o_const 0 2) := zS_iconst (by decide +kernel) rfl (by decide)
theorem zr_69_2 : zSnd 69 2 (o_const 3 3) := zS_iconst (by decide +kernel) rfl (by decide)
theorem zr_69_3 : zSnd 69 3 (o_call 38 3 3 1 6) := zS_callS (idx := 33) (by decide +kernel) rfl zq_183 zq_184 (by decide +kernel) zMk_38 (by decide +kernel) (by decide +kernel) (by decide +kernel)
theorem zr_69_6 : zSnd 69 6 (o_zret) := zS_zret (by decide +kernel) (by decide +kernel)
theorem zT_69 (pc : Nat) : zSnd 69 pc (zc_69 pc) := by
  unfold zc_69
  exact (zSn_nd (zSn_nd (zSn_lf zr_69_0) (zSn_lf zr_69_1)) (zSn_nd (zSn_lf zr_69_2) (zSn_nd (zSn_lf zr_69_3) (zSn_lf zr_69_6))))
theorem zr_70_0 : zSnd 70 0 (o_aload 0 1) := zS_aload_n (i := 0) (by decide +kernel) rfl rfl
theorem zr_70_1 : zSnd 70 1 (o_iload 1 2) := zS_iload_n (i := 1) (by decide +kernel) rfl rfl
theorem zr_70_2 : zSnd 70 2 (o_call 69 1 1 1 5) := zS_callS (idx := 108) (by decide +kernel) rfl zq_250 zq_251 (by decide +kernel) zMk_69 (by decide +kernel) (by decide +kernel) (by decide +kernel)
theorem zr_70_5 : zSnd 70 5 (o_ifeq 12 8) := zS_ifeq (by decide +kernel : decode (zmB 70) 5 = .ok (.ifCond .eq 7, 3)) rfl (by decide)
theorem zr_70_8 : zSnd 70 8 (o_const 0 9) := zS_iconst (by decide +kernel) rfl (by decide)
theorem zr_70_9 : zSnd 70 9 (o_goto 13) := zS_goto (by decide +kernel : decode (zmB 70) 9 = .ok (.goto 4, 3)) (by decide)
theorem zr_70_12 : zSnd 70 12 (o_const 1 13) := zS_iconst (by decide +kernel) rfl (by decide)
theorem zr_70_13 : zSnd 70 13 (o_putf 6 0 16) := zS_putf (idx := 22) (by decide +kernel) rfl (by decide) rfl (by decide) rfl zin_6 tyX5_ok nmX5 rfl (by decide +kernel) zq_177
theorem zr_70_16 : zSnd 70 16 (o_aload 0 17) := zS_aload_n (i := 0) (by decide +kernel) rfl rfl
theorem zr_70_17 : zSnd 70 17 (o_getf 6 0 20) := zS_getf (idx := 22) (by decide +kernel) rfl (by decide) rfl (by decide) rfl zin_6 zq_177
theorem zr_70_20 : zSnd 70 20 (o_ifle 25 23) := zS_ifle (by decide +kernel : decode (zmB 70) 20 = .ok (.ifCond .le 5, 3)) rfl (by decide)
theorem zr_70_23 : zSnd 70 23 (o_const 0 24) := zS_iconst (by decide +kernel) rfl (by decide)
theorem zr_70_24 : zSnd 70 24 (o_iret) := zS_iret (by decide +kernel) (by decide +kernel)
theorem zr_70_25 : zSnd 70 25 (o_aload 0 26) := zS_aload_n (i := 0) (by decide +kernel) rfl rfl
theorem zr_70_26 : zSnd 70 26 (o_callv 6 39 1 2 0 29) := zS_callV (n := 0) (idx := 48) (by decide +kernel) rfl rfl (by decide) rfl zq_193 zq_194 zq_195 (by decide +kernel) zMk_39 (by decide +kernel) (by decide +kernel) (by decide +kernel)
theorem zr_70_29 : zSnd 70 29 (o_aload 0 30) := zS_aload_n (i := 0) (by decide +kernel) rfl rfl
theorem zr_70_30 : zSnd 70 30 (o_iload 1 31) := zS_iload_n (i := 1) (by decide +kernel) rfl rfl
theorem zr_70_31 : zSnd 70 31 (o_callv 6 68 2 4 0 34) := zS_callV (n := 1) (idx := 111) (by decide +kernel) rfl rfl (by decide) rfl zq_252 zq_253 zq_254 (by decide +kernel) zMk_68 (by decide +kernel) (by decide +kernel) (by decide +kernel)
theorem zr_70_34 : zSnd 70 34 (o_aload 0 35) := zS_aload_n (i := 0) (by decide +kernel) rfl rfl
theorem zr_70_35 : zSnd 70 35 (o_const 3 36) := zS_iconst (by decide +kernel) rfl (by decide)
theorem zr_70_36 : zSnd 70 36 (o_callv 6 66 2 4 1 39) := zS_callV (n := 1) (idx := 115) (by decide +kernel) rfl rfl (by decide) rfl zq_255 zq_256 zq_257 (by decide +kernel) zMk_66 (by decide +kernel) (by decide +kernel) (by decide +kernel)
theorem zr_70_39 : zSnd 70 39 (o_iret) := zS_iret (by decide +kernel) (by decide +kernel)
theorem zT_70 (pc : Nat) : zSnd 70 pc (zc_70 pc) := by
  unfold zc_70
  exact (zSn_nd (zSn_nd (zSn_nd (zSn_nd (zSn_lf zr_70_0) (zSn_lf zr_70_1)) (zSn_nd (zSn_lf zr_70_2) (zSn_nd (zSn_lf zr_70_5) (zSn_lf zr_70_8)))) (zSn_nd (zSn_nd (zSn_lf zr_70_9) (zSn_nd (zSn_lf zr_70_12) (zSn_lf zr_70_13))) (zSn_nd (zSn_lf zr_70_16) (zSn_nd (zSn_lf zr_70_17) (zSn_lf zr_70_20))))) (zSn_nd (zSn_nd (zSn_nd (zSn_lf zr_70_23) (zSn_lf zr_70_24)) (zSn_nd (zSn_lf zr_70_25) (zSn_nd (zSn_lf zr_70_26) (zSn_lf zr_70_29)))) (zSn_nd (zSn_nd (zSn_lf zr_70_30) (zSn_nd (zSn_lf zr_70_31) (zSn_lf zr_70_34))) (zSn_nd (zSn_lf zr_70_35) (zSn_nd (zSn_lf zr_70_36) (zSn_lf zr_70_39))))))
theorem zr_71_0 : zSnd 71 0 (o_aload 0 1) := zS_aload_n (i := 0) (by decide +kernel) rfl rfl
theorem zr_71_1 : zSnd 71 1 (o_iload 1 2) := zS_iload_n (i := 1) (by decide +kernel) rfl rfl
theorem zr_71_2 : zSnd 71 2 (o_iload 2 3) := zS_iload_n (i := 2) (by decide +kernel) rfl rfl
theorem zr_71_3 : zSnd 71 3 (o_const 2 4) := zS_iconst (by decide +kernel) rfl (by decide)
theorem zr_71_4 : zSnd 71 4 (o_callv 6 44 4 4 1 7) := zS_callV (n := 3) (idx := 73) (by decide +kernel) rfl rfl (by decide) rfl zq_217 zq_218 zq_219 (by decide +kernel) zMk_44 (by decide +kernel) (by decide +kernel) (by decide +kernel)
theorem zr_71_7 : zSnd 71 7 (o_istore 3 8) := zS_istore_n (i := 3) (by decide +kernel) rfl rfl (by decide +kernel)
theorem zr_71_8 : zSnd 71 8 (o_const 0 9) := zS_iconst (by decide +kernel) rfl (by decide)
theorem zr_71_9 : zSnd 71 9 (o_istore 4 11) := zS_istore (by decide +kernel) rfl (by decide +kernel)
theorem zr_71_11 : zSnd 71 11 (o_iload 4 13) := zS_iload (by decide +kernel) rfl
theorem zr_71_13 : zSnd 71 13 (o_aload 0 14) := zS_aload_n (i := 0) (by decide +kernel) rfl rfl
theorem zr_71_14 : zSnd 71 14 (o_getf 6 1 17) := zS_getf (idx := 7) (by decide +kernel) rfl (by decide) rfl (by decide) rfl zin_6 zq_180
theorem zr_71_17 : zSnd 71 17 (o_const 1 18) := zS_iconst (by decide +kernel) rfl (by decide)
theorem zr_71_18 : zSnd 71 18 (o_iald 19) := zS_iald (by decide +kernel) rfl
theorem zr_71_19 : zSnd 71 19 (o_cge 156 22) := zS_cge (by decide +kernel : decode (zmB 71) 19 = .ok (.if_icmp .ge 137, 3)) rfl (by decide)
theorem zr_71_22 : zSnd 71 22 (o_const 0 23) := zS_iconst (by decide +kernel) rfl (by decide)
theorem zr_71_23 : zSnd 71 23 (o_istore 5 25) := zS_istore (by decide +kernel) rfl (by decide +kernel)
theorem zr_71_25 : zSnd 71 25 (o_iload 5 27) := zS_iload (by decide +kernel) rfl
theorem zr_71_27 : zSnd 71 27 (o_aload 0 28) := zS_aload_n (i := 0) (by decide +kernel) rfl rfl
theorem zr_71_28 : zSnd 71 28 (o_iload 4 30) := zS_iload (by decide +kernel) rfl
theorem zr_71_30 : zSnd 71 30 (o_const 2 31) := zS_iconst (by decide +kernel) rfl (by decide)
theorem zr_71_31 : zSnd 71 31 (o_callv 6 42 3 3 1 34) := zS_callV (n := 2) (idx := 45) (by decide +kernel) rfl rfl (by decide) rfl zq_190 zq_191 zq_192 (by decide +kernel) zMk_42 (by decide +kernel) (by decide +kernel) (by decide +kernel)
theorem zr_71_34 : zSnd 71 34 (o_cge 150 37) := zS_cge (by decide +kernel : decode (zmB 71) 34 = .ok (.if_icmp .ge 116, 3)) rfl (by decide)
theorem zr_71_37 : zSnd 71 37 (o_iload 4 39) := zS_iload (by decide +kernel) rfl
theorem zr_71_39 : zSnd 71 39 (o_iload 1 40) := zS_iload_n (i := 1) (by decide +kernel) rfl rfl
theorem zr_71_40 : zSnd 71 40 (o_cne 59 43) := zS_cne (by decide +kernel : decode (zmB 71) 40 = .ok (.if_icmp .ne 19, 3)) rfl (by decide)
theorem zr_71_43 : zSnd 71 43 (o_iload 5 45) := zS_iload (by decide +kernel) rfl
theorem zr_71_45 : zSnd 71 45 (o_const 1 46) := zS_iconst (by decide +kernel) rfl (by decide)
theorem zr_71_46 : zSnd 71 46 (o_iadd 47) := zS_iadd (by decide +kernel) rfl
theorem zr_71_47 : zSnd 71 47 (o_iload 2 48) := zS_iload_n (i := 2) (by decide +kernel) rfl rfl
theorem zr_71_48 : zSnd 71 48 (o_cne 55 51) := zS_cne (by decide +kernel : decode (zmB 71) 48 = .ok (.if_icmp .ne 7, 3)) rfl (by decide)
theorem zr_71_51 : zSnd 71 51 (o_const 1 52) := zS_iconst (by decide +kernel) rfl (by decide)
theorem zr_71_52 : zSnd 71 52 (o_goto 60) := zS_goto (by decide +kernel : decode (zmB 71) 52 = .ok (.goto 8, 3)) (by decide)
theorem zr_71_55 : zSnd 71 55 (o_const 0 56) := zS_iconst (by decide +kernel) rfl (by decide)
theorem zr_71_56 : zSnd 71 56 (o_goto 60) := zS_goto (by decide +kernel : decode (zmB 71) 56 = .ok (.goto 4, 3)) (by decide)
theorem zr_71_59 : zSnd 71 59 (o_const 0 60) := zS_iconst (by decide +kernel) rfl (by decide)
theorem zr_71_60 : zSnd 71 60 (o_istore 6 62) := zS_istore (by decide +kernel) rfl (by decide +kernel)
theorem zr_71_62 : zSnd 71 62 (o_aload 0 63) := zS_aload_n (i := 0) (by decide +kernel) rfl rfl
theorem zr_71_63 : zSnd 71 63 (o_iload 4 65) := zS_iload (by decide +kernel) rfl
theorem zr_71_65 : zSnd 71 65 (o_iload 5 67) := zS_iload (by decide +kernel) rfl
theorem zr_71_67 : zSnd 71 67 (o_const 0 68) := zS_iconst (by decide +kernel) rfl (by decide)
theorem zr_71_68 : zSnd 71 68 (o_callv 6 44 4 4 1 71) := zS_callV (n := 3) (idx := 73) (by decide +kernel) rfl rfl (by decide) rfl zq_217 zq_218 zq_219 (by decide +kernel) zMk_44 (by decide +kernel) (by decide +kernel) (by decide +kernel)
theorem zr_71_71 : zSnd 71 71 (o_aload 0 72) := zS_aload_n (i := 0) (by decide +kernel) rfl rfl
theorem zr_71_72 : zSnd 71 72 (o_iload 1 73) := zS_iload_n (i := 1) (by decide +kernel) rfl rfl
theorem zr_71_73 : zSnd 71 73 (o_iload 2 74) := zS_iload_n (i := 2) (by decide +kernel) rfl rfl
theorem zr_71_74 : zSnd 71 74 (o_const 0 75) := zS_iconst (by decide +kernel) rfl (by decide)
theorem zr_71_75 : zSnd 71 75 (o_callv 6 44 4 4 1 78) := zS_callV (n := 3) (idx := 73) (by decide +kernel) rfl rfl (by decide) rfl zq_217 zq_218 zq_219 (by decide +kernel) zMk_44 (by decide +kernel) (by decide +kernel) (by decide +kernel)
theorem zr_71_78 : zSnd 71 78 (o_cne 104 81) := zS_cne (by decide +kernel : decode (zmB 71) 78 = .ok (.if_icmp .ne 26, 3)) rfl (by decide)
theorem zr_71_81 : zSnd 71 81 (o_aload 0 82) := zS_aload_n (i := 0) (by decide +kernel) rfl rfl
theorem zr_71_82 : zSnd 71 82 (o_iload 4 84) := zS_iload (by decide +kernel) rfl
theorem zr_71_84 : zSnd 71 84 (o_iload 5 86) := zS_iload (by decide +kernel) rfl
theorem zr_71_86 : zSnd 71 86 (o_const 2 87) := zS_iconst (by decide +kernel) rfl (by decide)
theorem zr_71_87 : zSnd 71 87 (o_callv 6 44 4 4 1 90) := zS_callV (n := 3) (idx := 73) (by decide +kernel) rfl rfl (by decide) rfl zq_217 zq_218 zq_219 (by decide +kernel) zMk_44 (by decide +kernel) (by decide +kernel) (by decide +kernel)
theorem zr_71_90 : zSnd 71 90 (o_aload 0 91) := zS_aload_n (i := 0) (by decide +kernel) rfl rfl
theorem zr_71_91 : zSnd 71 91 (o_iload 1 92) := zS_iload_n (i := 1) (by decide +kernel) rfl rfl
theorem zr_71_92 : zSnd 71 92 (o_iload 2 93) := zS_iload_n (i := 2) (by decide +kernel) rfl rfl
theorem zr_71_93 : zSnd 71 93 (o_const 2 94) := zS_iconst (by decide +kernel) rfl (by decide)
theorem zr_71_94 : zSnd 71 94 (o_callv 6 44 4 4 1 97) := zS_callV (n := 3) (idx := 73) (by decide +kernel) rfl rfl (by decide) rfl zq_217 zq_218 zq_219 (by decide +kernel) zMk_44 (by decide +kernel) (by decide +kernel) (by decide +kernel)
theorem zr_71_97 : zSnd 71 97 (o_cge 104 100) := zS_cge (by decide +kernel : decode (zmB 71) 97 = .ok (.if_icmp .ge 7, 3)) rfl (by decide)
theorem zr_71_100 : zSnd 71 100 (o_const 1 101) := zS_iconst (by decide +kernel) rfl (by decide)
theorem zr_71_101 : zSnd 71 101 (o_goto 105) := zS_goto (by decide +kernel : decode (zmB 71) 101 = .ok (.goto 4, 3)) (by decide)
theorem zr_71_104 : zSnd 71 104 (o_const 0 105) := zS_iconst (by decide +kernel) rfl (by decide)
theorem zr_71_105 : zSnd 71 105 (o_istore 7 107) := zS_istore (by decide +kernel) rfl (by decide +kernel)
theorem zr_71_107 : zSnd 71 107 (o_iload 6 109) := zS_iload (by decide +kernel) rfl
theorem zr_71_109 : zSnd 71 109 (o_ifne 117 112) := zS_ifne (by decide +kernel : decode (zmB 71) 109 = .ok (.ifCond .ne 8, 3)) rfl (by decide)
theorem zr_71_112 : zSnd 71 112 (o_iload 7 114) := zS_iload (by decide +kernel) rfl
theorem zr_71_114 : zSnd 71 114 (o_ifeq 142 117) := zS_ifeq (by decide +kernel : decode (zmB 71) 114 = .ok (.ifCond .eq 28, 3)) rfl (by decide)
theorem zr_71_117 : zSnd 71 117 (o_aload 0 118) := zS_aload_n (i := 0) (by decide +kernel) rfl rfl
theorem zr_71_118 : zSnd 71 118 (o_iload 4 120) := zS_iload (by decide +kernel) rfl
theorem zr_71_120 : zSnd 71 120 (o_iload 5 122) := zS_iload (by decide +kernel) rfl
theorem zr_71_122 : zSnd 71 122 (o_const 3 123) := zS_iconst (by decide +kernel) rfl (by decide)
theorem zr_71_123 : zSnd 71 123 (o_callv 6 60 4 4 1 126) := zS_callV (n := 3) (idx := 82) (by decide +kernel) rfl rfl (by decide) rfl zq_226 zq_227 zq_228 (by decide +kernel) zMk_60 (by decide +kernel) (by decide +kernel) (by decide +kernel)
theorem zr_71_126 : zSnd 71 126 (o_iload 3 127) := zS_iload_n (i := 3) (by decide +kernel) rfl rfl
theorem zr_71_127 : zSnd 71 127 (o_cle 142 130) := zS_cle (by decide +kernel : decode (zmB 71) 127 = .ok (.if_icmp .le 15, 3)) rfl (by decide)
theorem zr_71_130 : zSnd 71 130 (o_aload 0 131) := zS_aload_n (i := 0) (by decide +kernel) rfl rfl
theorem zr_71_131 : zSnd 71 131 (o_iload 4 133) := zS_iload (by decide +kernel) rfl
theorem zr_71_133 : zSnd 71 133 (o_iload 5 135) := zS_iload (by decide +kernel) rfl
theorem zr_71_135 : zSnd 71 135 (o_const 3 136) := zS_iconst (by decide +kernel) rfl (by decide)
theorem zr_71_136 : zSnd 71 136 (o_callv 6 60 4 4 1 139) := zS_callV (n := 3) (idx := 82) (by decide +kernel) rfl rfl (by decide) rfl zq_226 zq_227 zq_228 (by decide +kernel) zMk_60 (by decide +kernel) (by decide +kernel) (by decide +kernel)
theorem zr_71_139 : zSnd 71 139 (o_goto 143) := zS_goto (by decide +kernel : decode (zmB 71) 139 = .ok (.goto 4, 3)) (by decide)
theorem zr_71_142 : zSnd 71 142 (o_iload 3 143) := zS_iload_n (i := 3) (by decide +kernel) rfl rfl
theorem zr_71_143 : zSnd 71 143 (o_istore 3 144) := zS_istore_n (i := 3) (by decide +kernel) rfl rfl (by decide +kernel)
theorem zr_71_144 : zSnd 71 144 (o_iinc 5 1 147) := zS_iinc (by decide +kernel) rfl (by decide +kernel)
theorem zr_71_147 : zSnd 71 147 (o_goto 25) := zS_goto (by decide +kernel : decode (zmB 71) 147 = .ok (.goto (-122), 3)) (by decide)
theorem zr_71_150 : zSnd 71 150 (o_iinc 4 1 153) := zS_iinc (by decide +kernel) rfl (by decide +kernel)
theorem zr_71_153 : zSnd 71 153 (o_goto 11) := zS_goto (by decide +kernel : decode (zmB 71) 153 = .ok (.goto (-142), 3)) (by decide)
theorem zr_71_156 : zSnd 71 156 (o_aload 0 157) := zS_aload_n (i := 0) (by decide +kernel) rfl rfl
theorem zr_71_157 : zSnd 71 157 (o_iload 1 158) := zS_iload_n (i := 1) (by decide +kernel) rfl rfl
theorem zr_71_158 : zSnd 71 158 (o_iload 2 159) := zS_iload_n (i := 2) (by decide +kernel) rfl rfl
theorem zr_71_159 : zSnd 71 159 (o_iload 3 160) := zS_iload_n (i := 3) (by decide +kernel) rfl rfl
theorem zr_71_160 : zSnd 71 160 (o_callv 6 59 4 6 1 163) := zS_callV (n := 3) (idx := 85) (by decide +kernel) rfl rfl (by decide) rfl zq_229 zq_230 zq_231 (by decide +kernel) zMk_59 (by decide +kernel) (by decide +kernel) (by decide +kernel)
theorem zr_71_163 : zSnd 71 163 (o_iret) := zS_iret (by decide +kernel) (by decide +kernel)
theorem zT_71 (pc : Nat) : zSnd 71 pc (zc_71 pc) := by
  unfold zc_71
  exact (zSn_nd (zSn_nd (zSn_nd (zSn_nd (zSn_nd (zSn_nd (zSn_lf zr_71_0) (zSn_lf zr_71_1)) (zSn_nd (zSn_lf zr_71_2) (zSn_nd (zSn_lf zr_71_3) (zSn_lf zr_71_4)))) (zSn_nd (zSn_nd (zSn_lf zr_71_7) (zSn_nd (zSn_lf zr_71_8) (zSn_lf zr_71_9))) (zSn_nd (zSn_lf zr_71_11) (zSn_nd (zSn_lf zr_71_13) (zSn_lf zr_71_14))))) (zSn_nd (zSn_nd (zSn_nd (zSn_lf zr_71_17) (zSn_lf zr_71_18)) (zSn_nd (zSn_lf zr_71_19) (zSn_nd (zSn_lf zr_71_22) (zSn_lf zr_71_23)))) (zSn_nd (zSn_nd (zSn_lf zr_71_25) (zSn_nd (zSn_lf zr_71_27) (zSn_lf zr_71_28))) (zSn_nd (zSn_lf zr_71_30) (zSn_nd (zSn_lf zr_71_31) (zSn_lf zr_71_34)))))) (zSn_nd (zSn_nd (zSn_nd (zSn_nd (zSn_lf zr_71_37) (zSn_lf zr_71_39)) (zSn_nd (zSn_lf zr_71_40) (zSn_nd (zSn_lf zr_71_43) (zSn_lf zr_71_45)))) (zSn_nd (zSn_nd (zSn_lf zr_71_46) (zSn_nd (zSn_lf zr_71_47) (zSn_lf zr_71_48))) (zSn_nd (zSn_lf zr_71_51) (zSn_nd (zSn_lf zr_71_52) (zSn_lf zr_71_55))))) (zSn_nd (zSn_nd (zSn_nd (zSn_lf zr_71_56) (zSn_nd (zSn_lf zr_71_59) (zSn_lf zr_71_60))) (zSn_nd (zSn_lf zr_71_62) (zSn_nd (zSn_lf zr_71_63) (zSn_lf zr_71_65)))) (zSn_nd (zSn_nd (zSn_lf zr_71_67) (zSn_nd (zSn_lf zr_71_68) (zSn_lf zr_71_71))) (zSn_nd (zSn_lf zr_71_72) (zSn_nd (zSn_lf zr_71_73) (zSn_lf zr_71_74))))))) (zSn_nd (zSn_nd (zSn_nd (zSn_nd (zSn_nd (zSn_lf zr_71_75) (zSn_lf zr_71_78)) (zSn_nd (zSn_lf zr_71_81) (zSn_nd (zSn_lf zr_71_82) (zSn_lf zr_71_84)))) (zSn_nd (zSn_nd (zSn_lf zr_71_86) (zSn_nd (zSn_lf zr_71_87) (zSn_lf zr_71_90))) (zSn_nd (zSn_lf zr_71_91) (zSn_nd (zSn_lf zr_71_92) (zSn_lf zr_71_93))))) (zSn_nd (zSn_nd (zSn_nd (zSn_lf zr_71_94) (zSn_nd (zSn_lf zr_71_97) (zSn_lf zr_71_100))) (zSn_nd (zSn_lf zr_71_101) (zSn_nd (zSn_lf zr_71_104) (zSn_lf zr_71_105)))) (zSn_nd (zSn_nd (zSn_lf zr_71_107) (zSn_nd (zSn_lf zr_71_109) (zSn_lf zr_71_112))) (zSn_nd (zSn_lf zr_71_114) (zSn_nd (zSn_lf zr_71_117) (zSn_lf zr_71_118)))))) (zSn_nd (zSn_nd (zSn_nd (zSn_nd (zSn_lf zr_71_120) (zSn_lf zr_71_122)) (zSn_nd (zSn_lf zr_71_123) (zSn_nd (zSn_lf zr_71_126) (zSn_lf zr_71_127)))) (zSn_nd (zSn_nd (zSn_lf zr_71_130) (zSn_nd (zSn_lf zr_71_131) (zSn_lf zr_71_133))) (zSn_nd (zSn_lf zr_71_135) (zSn_nd (zSn_lf zr_71_136) (zSn_lf zr_71_139))))) (zSn_nd (zSn_nd (zSn_nd (zSn_lf zr_71_142) (zSn_nd (zSn_lf zr_71_143) (zSn_lf zr_71_144))) (zSn_nd (zSn_lf zr_71_147) (zSn_nd (zSn_lf zr_71_150) (zSn_lf zr_71_153)))) (zSn_nd (zSn_nd (zSn_lf zr_71_156) (zSn_nd (zSn_lf zr_71_157) (zSn_lf zr_71_158))) (zSn_nd (zSn_lf zr_71_159) (zSn_nd (zSn_lf zr_71_160) (zSn_lf zr_71_163))))))))
theorem zr_72_0 : zSnd 72 0 (o_aload 0 1) := zS_aload_n (i := 0) (by decide +kernel) rfl rfl
theorem zr_72_1 : zSnd 72 1 (o_const 2 2) := zS_iconst (by decide +kernel) rfl (by decide)
theorem zr_72_2 : zSnd 72 2 (o_const 3 3) := zS_iconst (by decide +kernel) rfl (by decide)
theorem zr_72_3 : zSnd 72 3 (o_callv 6 67 3 6 1 6) := zS_callV (n := 2) (idx := 105) (by decide +kernel) rfl rfl (by decide) rfl zq_247 zq_248 zq_249 (by decide +kernel) zMk_67 (by decide +kernel) (by decide +kernel) (by decide +kernel)
theorem zr_72_6 : zSnd 72 6 (o_pop 7) := zS_pop (by decide +kernel) rfl
theorem zr_72_7 : zSnd 72 7 (o_const 1 8) := zS_iconst (by decide +kernel) rfl (by decide)
theorem zr_72_8 : zSnd 72 8 (o_istore 1 9) := zS_istore_n (i := 1) (by decide +kernel) rfl rfl (by decide +kernel)
theorem zr_72_9 : zSnd 72 9 (o_iload 1 10) := zS_iload_n (i := 1) (by decide +kernel) rfl rfl
theorem zr_72_10 : zSnd 72 10 (o_ifeq 98 13) := zS_ifeq (by decide +kernel : decode (zmB 72) 10 = .ok (.ifCond .eq 88, 3)) rfl (by decide)
theorem zr_72_13 : zSnd 72 13 (o_const 0 14) := zS_iconst (by decide +kernel) rfl (by decide)
theorem zr_72_14 : zSnd 72 14 (o_istore 1 15) := zS_istore_n (i := 1) (by decide +kernel) rfl rfl (by decide +kernel)
theorem zr_72_15 : zSnd 72 15 (o_const 0 16) := zS_iconst (by decide +kernel) rfl (by decide)
theorem zr_72_16 : zSnd 72 16 (o_istore 2 17) := zS_istore_n (i := 2) (by decide +kernel) rfl rfl (by decide +kernel)
theorem zr_72_17 : zSnd 72 17 (o_iload 2 18) := zS_iload_n (i := 2) (by decide +kernel) rfl rfl
theorem zr_72_18 : zSnd 72 18 (o_aload 0 19) := zS_aload_n (i := 0) (by decide +kernel) rfl rfl
theorem zr_72_19 : zSnd 72 19 (o_getf 6 1 22) := zS_getf (idx := 7) (by decide +kernel) rfl (by decide) rfl (by decide) rfl zin_6 zq_180
theorem zr_72_22 : zSnd 72 22 (o_const 1 23) := zS_iconst (by decide +kernel) rfl (by decide)
theorem zr_72_23 : zSnd 72 23 (o_iald 24) := zS_iald (by decide +kernel) rfl
theorem zr_72_24 : zSnd 72 24 (o_cge 95 27) := zS_cge (by decide +kernel : decode (zmB 72) 24 = .ok (.if_icmp .ge 71, 3)) rfl (by decide)
theorem zr_72_27 : zSnd 72 27 (o_const 0 28) := zS_iconst (by decide +kernel) rfl (by decide)
theorem zr_72_28 : zSnd 72 28 (o_istore 3 29) := zS_istore_n (i := 3) (by decide +kernel) rfl rfl (by decide +kernel)
theorem zr_72_29 : zSnd 72 29 (o_iload 3 30) := zS_iload_n (i := 3) (by decide +kernel) rfl rfl
theorem zr_72_30 : zSnd 72 30 (o_aload 0 31) := zS_aload_n (i := 0) (by decide +kernel) rfl rfl
theorem zr_72_31 : zSnd 72 31 (o_iload 2 32) := zS_iload_n (i := 2) (by decide +kernel) rfl rfl
theorem zr_72_32 : zSnd 72 32 (o_const 2 33) := zS_iconst (by decide +kernel) rfl (by decide)
theorem zr_72_33 : zSnd 72 33 (o_callv 6 42 3 3 1 36) := zS_callV (n := 2) (idx := 45) (by decide +kernel) rfl rfl (by decide) rfl zq_190 zq_191 zq_192 (by decide +kernel) zMk_42 (by decide +kernel) (by decide +kernel) (by decide +kernel)
theorem zr_72_36 : zSnd 72 36 (o_cge 89 39) := zS_cge (by decide +kernel : decode (zmB 72) 36 = .ok (.if_icmp .ge 53, 3)) rfl (by decide)
theorem zr_72_39 : zSnd 72 39 (o_aload 0 40) := zS_aload_n (i := 0) (by decide +kernel) rfl rfl
theorem zr_72_40 : zSnd 72 40 (o_iload 2 41) := zS_iload_n (i := 2) (by decide +kernel) rfl rfl
theorem zr_72_41 : zSnd 72 41 (o_iload 3 42) := zS_iload_n (i := 3) (by decide +kernel) rfl rfl
theorem zr_72_42 : zSnd 72 42 (o_callv 6 71 3 8 1 45) := zS_callV (n := 2) (idx := 118) (by decide +kernel) rfl rfl (by decide) rfl zq_258 zq_259 zq_260 (by decide +kernel) zMk_71 (by decide +kernel) (by decide +kernel) (by decide +kernel)
theorem zr_72_45 : zSnd 72 45 (o_istore 4 47) := zS_istore (by decide +kernel) rfl (by decide +kernel)
theorem zr_72_47 : zSnd 72 47 (o_iload 1 48) := zS_iload_n (i := 1) (by decide +kernel) rfl rfl
theorem zr_72_48 : zSnd 72 48 (o_ifne 63 51) := zS_ifne (by decide +kernel : decode (zmB 72) 48 = .ok (.ifCond .ne 15, 3)) rfl (by decide)
theorem zr_72_51 : zSnd 72 51 (o_iload 4 53) := zS_iload (by decide +kernel) rfl
theorem zr_72_53 : zSnd 72 53 (o_aload 0 54) := zS_aload_n (i := 0) (by decide +kernel) rfl rfl
theorem zr_72_54 : zSnd 72 54 (o_iload 2 55) := zS_iload_n (i := 2) (by decide +kernel) rfl rfl
theorem zr_72_55 : zSnd 72 55 (o_iload 3 56) := zS_iload_n (i := 3) (by decide +kernel) rfl rfl
theorem zr_72_56 : zSnd 72 56 (o_const 3 57) := zS_iconst (by decide +kernel) rfl (by decide)
theorem zr_72_57 : zSnd 72 57 (o_callv 6 44 4 4 1 60) := zS_callV (n := 3) (idx := 73) (by decide +kernel) rfl rfl (by decide) rfl zq_217 zq_218 zq_219 (by decide +kernel) zMk_44 (by decide +kernel) (by decide +kernel) (by decide +kernel)
theorem zr_72_60 : zSnd 72 60 (o_ceq 67 63) := zS_ceq (by decide +kernel : decode (zmB 72) 60 = .ok (.if_icmp .eq 7, 3)) rfl (by decide)
theorem zr_72_63 : zSnd 72 63 (o_const 1 64) := zS_iconst (by decide +kernel) rfl (by decide)
theorem zr_72_64 : zSnd 72 64 (o_goto 68) := zS_goto (by decide +kernel : decode (zmB 72) 64 = .ok (.goto 4, 3)) (by decide)
theorem zr_72_67 : zSnd 72 67 (o_const 0 68) := zS_iconst (by decide +kernel) rfl (by decide)
theorem zr_72_68 : zSnd 72 68 (o_istore 1 69) := zS_istore_n (i := 1) (by decide +kernel) rfl rfl (by decide +kernel)
theorem zr_72_69 : zSnd 72 69 (o_aload 0 70) := zS_aload_n (i := 0) (by decide +kernel) rfl rfl
theorem zr_72_70 : zSnd 72 70 (o_getf 6 1 73) := zS_getf (idx := 7) (by decide +kernel) rfl (by decide) rfl (by decide) rfl zin_6 zq_180
theorem zr_72_73 : zSnd 72 73 (o_iload 2 74) := zS_iload_n (i := 2) (by decide +kernel) rfl rfl
theorem zr_72_74 : zSnd 72 74 (o_iload 3 75) := zS_iload_n (i := 3) (by decide +kernel) rfl rfl
theorem zr_72_75 : zSnd 72 75 (o_call 43 2 2 1 78) := zS_callS (idx := 37) (by decide +kernel) rfl zq_185 zq_186 (by decide +kernel) zMk_43 (by decide +kernel) (by decide +kernel) (by decide +kernel)
theorem zr_72_78 : zSnd 72 78 (o_const 3 79) := zS_iconst (by decide +kernel) rfl (by decide)
theorem zr_72_79 : zSnd 72 79 (o_iadd 80) := zS_iadd (by decide +kernel) rfl
theorem zr_72_80 : zSnd 72 80 (o_iload 4 82) := zS_iload (by decide +kernel) rfl
theorem zr_72_82 : zSnd 72 82 (o_iast 83) := zS_iast (by decide +kernel) rfl
theorem zr_72_83 : zSnd 72 83 (o_iinc 3 1 86) := zS_iinc (by decide +kernel) rfl (by decide +kernel)
theorem zr_72_86 : zSnd 72 86 (o_goto 29) := zS_goto (by decide +kernel : decode (zmB 72) 86 = .ok (.goto (-57), 3)) (by decide)
theorem zr_72_89 : zSnd 72 89 (o_iinc 2 1 92) := zS_iinc (by decide +kernel) rfl (by decide +kernel)
theorem zr_72_92 : zSnd 72 92 (o_goto 17) := zS_goto (by decide +kernel : decode (zmB 72) 92 = .ok (.goto (-75), 3)) (by decide)
theorem zr_72_95 : zSnd 72 95 (o_goto 9) := zS_goto (by decide +kernel : decode (zmB 72) 95 = .ok (.goto (-86), 3)) (by decide)
theorem zr_72_98 : zSnd 72 98 (o_ret) := zS_ret (by decide +kernel) (by decide +kernel)
theorem zT_72 (pc : Nat) : zSnd 72 pc (zc_72 pc) := by
  unfold zc_72
  exact (zSn_nd (zSn_nd (zSn_nd (zSn_nd (zSn_nd (zSn_lf zr_72_0) (zSn_nd (zSn_lf zr_72_1) (zSn_lf zr_72_2))) (zSn_nd (zSn_nd (zSn_lf zr_72_3) (zSn_lf zr_72_6)) (zSn_nd (zSn_lf zr_72_7) (zSn_lf zr_72_8)))) (zSn_nd (zSn_nd (zSn_nd (zSn_lf zr_72_9) (zSn_lf zr_72_10)) (zSn_nd (zSn_lf zr_72_13) (zSn_lf zr_72_14))) (zSn_nd (zSn_nd (zSn_lf zr_72_15) (zSn_lf zr_72_16)) (zSn_nd (zSn_lf zr_72_17) (zSn_lf zr_72_18))))) (zSn_nd (zSn_nd (zSn_nd (zSn_lf zr_72_19) (zSn_nd (zSn_lf zr_72_22) (zSn_lf zr_72_23))) (zSn_nd (zSn_nd (zSn_lf zr_72_24) (zSn_lf zr_72_27)) (zSn_nd (zSn_lf zr_72_28) (zSn_lf zr_72_29)))) (zSn_nd (zSn_nd (zSn_nd (zSn_lf zr_72_30) (zSn_lf zr_72_31)) (zSn_nd (zSn_lf zr_72_32) (zSn_lf zr_72_33))) (zSn_nd (zSn_nd (zSn_lf zr_72_36) (zSn_lf zr_72_39)) (zSn_nd (zSn_lf zr_72_40) (zSn_lf zr_72_41)))))) (zSn_nd (zSn_nd (zSn_nd (zSn_nd (zSn_lf zr_72_42) (zSn_nd (zSn_lf zr_72_45) (zSn_lf zr_72_47))) (zSn_nd (zSn_nd (zSn_lf zr_72_48) (zSn_lf zr_72_51)) (zSn_nd (zSn_lf zr_72_53) (zSn_lf zr_72_54)))) (zSn_nd (zSn_nd (zSn_nd (zSn_lf zr_72_55) (zSn_lf zr_72_56)) (zSn_nd (zSn_lf zr_72_57) (zSn_lf zr_72_60))) (zSn_nd (zSn_nd (zSn_lf zr_72_63) (zSn_lf zr_72_64)) (zSn_nd (zSn_lf zr_72_67) (zSn_lf zr_72_68))))) (zSn_nd (zSn_nd (zSn_nd (zSn_lf zr_72_69) (zSn_nd (zSn_lf zr_72_70) (zSn_lf zr_72_73))) (zSn_nd (zSn_nd (zSn_lf zr_72_74) (zSn_lf zr_72_75)) (zSn_nd (zSn_lf zr_72_78) (zSn_lf zr_72_79)))) (zSn_nd (zSn_nd (zSn_nd (zSn_lf zr_72_80) (zSn_lf zr_72_82)) (zSn_nd (zSn_lf zr_72_83) (zSn_lf zr_72_86))) (zSn_nd (zSn_nd (zSn_lf zr_72_89) (zSn_lf zr_72_92)) (zSn_nd (zSn_lf zr_72_95) (zSn_lf zr_72_98)))))))
theorem zr_73_0 : zSnd 73 0 (o_aload 0 1) := zS_aload_n (i := 0) (by decide +kernel) rfl rfl
theorem zr_73_1 : zSnd 73 1 (o_getf 6 1 4) := zS_getf (idx := 7) (by decide +kernel) rfl (by decide) rfl (by decide) rfl zin_6 zq_180
theorem zr_73_4 : zSnd 73 4 (o_const 3 5) := zS_iconst (by decide +kernel) rfl (by decide)
theorem zr_73_5 : zSnd 73 5 (o_iald 6) := zS_iald (by decide +kernel) rfl
theorem zr_73_6 : zSnd 73 6 (o_const 1 7) := zS_iconst (by decide +kernel) rfl (by decide)
theorem zr_73_7 : zSnd 73 7 (o_cne 14 10) := zS_cne (by decide +kernel : decode (zmB 73) 7 = .ok (.if_icmp .ne 7, 3)) rfl (by decide)
theorem zr_73_10 : zSnd 73 10 (o_const 1 11) := zS_iconst (by decide +kernel) rfl (by decide)
theorem zr_73_11 : zSnd 73 11 (o_goto 15) := zS_goto (by decide +kernel : decode (zmB 73) 11 = .ok (.goto 4, 3)) (by decide)
theorem zr_73_14 : zSnd 73 14 (o_const 0 15) := zS_iconst (by decide +kernel) rfl (by decide)
theorem zr_73_15 : zSnd 73 15 (o_zret) := zS_zret (by decide +kernel) (by decide +kernel)
theorem zT_73 (pc : Nat) : zSnd 73 pc (zc_73 pc) := by
  unfold zc_73
  exact (zSn_nd (zSn_nd (zSn_nd (zSn_lf zr_73_0) (zSn_lf zr_73_1)) (zSn_nd (zSn_lf zr_73_4) (zSn_nd (zSn_lf zr_73_5) (zSn_lf zr_73_6)))) (zSn_nd (zSn_nd (zSn_lf zr_73_7) (zSn_lf zr_73_10)) (zSn_nd (zSn_lf zr_73_11) (zSn_nd (zSn_lf zr_73_14) (zSn_lf zr_73_15)))))
theorem zr_74_0 : zSnd 74 0 (o_aload 0 1) := zS_aload_n (i := 0) (by decide +kernel) rfl rfl
theorem zr_74_1 : zSnd 74 1 (o_aload 0 2) := zS_aload_n (i := 0) (by decide +kernel) rfl rfl
theorem zr_74_2 : zSnd 74 2 (o_callv 6 73 1 1 1 5) := zS_callV (n := 0) (idx := 121) (by decide +kernel) rfl rfl (by decide) rfl zq_261 zq_262 zq_263 (by decide +kernel) zMk_73 (by decide +kernel) (by decide +kernel) (by decide +kernel)
theorem zr_74_5 : zSnd 74 5 (o_ifeq 12 8) := zS_ifeq (by decide +kernel : decode (zmB 74) 5 = .ok (.ifCond .eq 7, 3)) rfl (by decide)
theorem zr_74_8 : zSnd 74 8 (o_const 0 9) := zS_iconst (by decide +kernel) rfl (by decide)
theorem zr_74_9 : zSnd 74 9 (o_goto 13) := zS_goto (by decide +kernel : decode (zmB 74) 9 = .ok (.goto 4, 3)) (by decide)
theorem zr_74_12 : zSnd 74 12 (o_const 1 13) := zS_iconst (by decide +kernel) rfl (by decide)
theorem zr_74_13 : zSnd 74 13 (o_putf 6 0 16) := zS_putf (idx := 22) (by decide +kernel) rfl (by decide) rfl (by decide) rfl zin_6 tyX5_ok nmX5 rfl (by decide +kernel) zq_177
theorem zr_74_16 : zSnd 74 16 (o_aload 0 17) := zS_aload_n (i := 0) (by decide +kernel) rfl rfl
theorem zr_74_17 : zSnd 74 17 (o_getf 6 0 20) := zS_getf (idx := 22) (by decide +kernel) rfl (by decide) rfl (by decide) rfl zin_6 zq_177
theorem zr_74_20 : zSnd 74 20 (o_ifle 25 23) := zS_ifle (by decide +kernel : decode (zmB 74) 20 = .ok (.ifCond .le 5, 3)) rfl (by decide)
theorem zr_74_23 : zSnd 74 23 (o_const 0 24) := zS_iconst (by decide +kernel) rfl (by decide)
theorem zr_74_24 : zSnd 74 24 (o_iret) := zS_iret (by decide +kernel) (by decide +kernel)
theorem zr_74_25 : zSnd 74 25 (o_aload 0 26) := zS_aload_n (i := 0) (by decide +kernel) rfl rfl
theorem zr_74_26 : zSnd 74 26 (o_callv 6 39 1 2 0 29) := zS_callV (n := 0) (idx := 48) (by decide +kernel) rfl rfl (by decide) rfl zq_193 zq_194 zq_195 (by decide +kernel) zMk_39 (by decide +kernel) (by decide +kernel) (by decide +kernel)
theorem zr_74_29 : zSnd 74 29 (o_aload 0 30) := zS_aload_n (i := 0) (by decide +kernel) rfl rfl
theorem zr_74_30 : zSnd 74 30 (o_callv 6 72 1 5 0 33) := zS_callV (n := 0) (idx := 125) (by decide +kernel) rfl rfl (by decide) rfl zq_264 zq_265 zq_266 (by decide +kernel) zMk_72 (by decide +kernel) (by decide +kernel) (by decide +kernel)
theorem zr_74_33 : zSnd 74 33 (o_aload 0 34) := zS_aload_n (i := 0) (by decide +kernel) rfl rfl
theorem zr_74_34 : zSnd 74 34 (o_const 3 35) := zS_iconst (by decide +kernel) rfl (by decide)
theorem zr_74_35 : zSnd 74 35 (o_callv 6 66 2 4 1 38) := zS_callV (n := 1) (idx := 115) (by decide +kernel) rfl rfl (by decide) rfl zq_255 zq_256 zq_257 (by decide +kernel) zMk_66 (by decide +kernel) (by decide +kernel) (by decide +kernel)
theorem zr_74_38 : zSnd 74 38 (o_iret) := zS_iret (by decide +kernel) (by decide +kernel)
theorem zT_74 (pc : Nat) : zSnd 74 pc (zc_74 pc) := by
  unfold zc_74
  exact (zSn_nd (zSn_nd (zSn_nd (zSn_nd (zSn_lf zr_74_0) (zSn_lf zr_74_1)) (zSn_nd (zSn_lf zr_74_2) (zSn_nd (zSn_lf zr_74_5) (zSn_lf zr_74_8)))) (zSn_nd (zSn_nd (zSn_lf zr_74_9) (zSn_lf zr_74_12)) (zSn_nd (zSn_lf zr_74_13) (zSn_nd (zSn_lf zr_74_16) (zSn_lf zr_74_17))))) (zSn_nd (zSn_nd (zSn_nd (zSn_lf zr_74_20) (zSn_lf zr_74_23)) (zSn_nd (zSn_lf zr_74_24) (zSn_nd (zSn_lf zr_74_25) (zSn_lf zr_74_26)))) (zSn_nd (zSn_nd (zSn_lf zr_74_29) (zSn_nd (zSn_lf zr_74_30) (zSn_lf zr_74_33))) (zSn_nd (zSn_lf zr_74_34) (zSn_nd (zSn_lf zr_74_35) (zSn_lf zr_74_38))))))
theorem zr_75_0 : zSnd 75 0 (o_const 0 1) := zS_iconst (by decide +kernel) rfl (by decide)
theorem zr_75_1 : zSnd 75 1 (o_istore 3 2) := zS_istore_n (i := 3) (by decide +kernel) rfl rfl (by decide +kernel)
theorem zr_75_2 : zSnd 75 2 (o_iload 3 3) := zS_iload_n (i := 3) (by decide +kernel) rfl rfl
theorem zr_75_3 : zSnd 75 3 (o_aload 0 4) := zS_aload_n (i := 0) (by decide +kernel) rfl rfl
theorem zr_75_4 : zSnd 75 4 (o_getf 6 1 7) := zS_getf (idx := 7) (by decide +kernel) rfl (by decide) rfl (by decide) rfl zin_6 zq_180
theorem zr_75_7 : zSnd 75 7 (o_const 1 8) := zS_iconst (by decide +kernel) rfl (by decide)
theorem zr_75_8 : zSnd 75 8 (o_iald 9) := zS_iald (by decide +kernel) rfl
theorem zr_75_9 : zSnd 75 9 (o_cge 106 12) := zS_cge (by decide +kernel : decode (zmB 75) 9 = .ok (.if_icmp .ge 97, 3)) rfl (by decide)
theorem zr_75_12 : zSnd 75 12 (o_const 1 13) := zS_iconst (by decide +kernel) rfl (by decide)
theorem zr_75_13 : zSnd 75 13 (o_istore 4 15) := zS_istore (by decide +kernel) rfl (by decide +kernel)
theorem zr_75_15 : zSnd 75 15 (o_const 0 16) := zS_iconst (by decide +kernel) rfl (by decide)
theorem zr_75_16 : zSnd 75 16 (o_istore 5 18) := zS_istore (by decide +kernel) rfl (by decide +kernel)
theorem zr_75_18 : zSnd 75 18 (o_iload 5 20) := zS_iload (by decide +kernel) rfl
theorem zr_75_20 : zSnd 75 20 (o_aload 0 21) := zS_aload_n (i := 0) (by decide +kernel) rfl rfl
theorem zr_75_21 : zSnd 75 21 (o_iload 3 22) := zS_iload_n (i := 3) (by decide +kernel) rfl rfl
theorem zr_75_22 : zSnd 75 22 (o_const 2 23) := zS_iconst (by decide +kernel) rfl (by decide)
theorem zr_75_23 : zSnd 75 23 (o_callv 6 42 3 3 1 26) := zS_callV (n := 2) (idx := 45) (by decide +kernel) rfl rfl (by decide) rfl zq_190 zq_191 zq_192 (by decide +kernel) zMk_42 (by decide +kernel) (by decide +kernel) (by decide +kernel)
theorem zr_75_26 : zSnd 75 26 (o_cge 100 29) := zS_cge (by decide +kernel : decode (zmB 75) 26 = .ok (.if_icmp .ge 74, 3)) rfl (by decide)
theorem zr_75_29 : zSnd 75 29 (o_aload 0 30) := zS_aload_n (i := 0) (by decide +kernel) rfl rfl
theorem zr_75_30 : zSnd 75 30 (o_iload 3 31) := zS_iload_n (i := 3) (by decide +kernel) rfl rfl
theorem zr_75_31 : zSnd 75 31 (o_iload 5 33) := zS_iload (by decide +kernel) rfl
theorem zr_75_33 : zSnd 75 33 (o_const 3 34) := zS_iconst (by decide +kernel) rfl (by decide)
theorem zr_75_34 : zSnd 75 34 (o_callv 6 44 4 4 1 37) := zS_callV (n := 3) (idx := 73) (by decide +kernel) rfl rfl (by decide) rfl zq_217 zq_218 zq_219 (by decide +kernel) zMk_44 (by decide +kernel) (by decide +kernel) (by decide +kernel)
theorem zr_75_37 : zSnd 75 37 (o_istore 6 39) := zS_istore (by decide +kernel) rfl (by decide +kernel)
theorem zr_75_39 : zSnd 75 39 (o_iload 4 41) := zS_iload (by decide +kernel) rfl
theorem zr_75_41 : zSnd 75 41 (o_ifeq 67 44) := zS_ifeq (by decide +kernel : decode (zmB 75) 41 = .ok (.ifCond .eq 26, 3)) rfl (by decide)
theorem zr_75_44 : zSnd 75 44 (o_iload 6 46) := zS_iload (by decide +kernel) rfl
theorem zr_75_46 : zSnd 75 46 (o_iload 1 47) := zS_iload_n (i := 1) (by decide +kernel) rfl rfl
theorem zr_75_47 : zSnd 75 47 (o_cge 67 50) := zS_cge (by decide +kernel : decode (zmB 75) 47 = .ok (.if_icmp .ge 20, 3)) rfl (by decide)
theorem zr_75_50 : zSnd 75 50 (o_aload 0 51) := zS_aload_n (i := 0) (by decide +kernel) rfl rfl
theorem zr_75_51 : zSnd 75 51 (o_iload 3 52) := zS_iload_n (i := 3) (by decide +kernel) rfl rfl
theorem zr_75_52 : zSnd 75 52 (o_iload 5 54) := zS_iload (by decide +kernel) rfl
theorem zr_75_54 : zSnd 75 54 (o_iload 6 56) := zS_iload (by decide +kernel) rfl
theorem zr_75_56 : zSnd 75 56 (o_callv 6 58 4 10 1 59) := zS_callV (n := 3) (idx := 79) (by decide +kernel) rfl rfl (by decide) rfl zq_223 zq_224 zq_225 (by decide +kernel) zMk_58 (by decide +kernel) (by decide +kernel) (by decide +kernel)
theorem zr_75_59 : zSnd 75 59 (o_const (-1) 60) := zS_iconst (by decide +kernel) rfl (by decide)
theorem zr_75_60 : zSnd 75 60 (o_cne 67 63) := zS_cne (by decide +kernel : decode (zmB 75) 60 = .ok (.if_icmp .ne 7, 3)) rfl (by decide)
theorem zr_75_63 : zSnd 75 63 (o_const 1 64) := zS_iconst (by decide +kernel) rfl (by decide)
theorem zr_75_64 : zSnd 75 64 (o_goto 68) := zS_goto (by decide +kernel : decode (zmB 75) 64 = .ok (.goto 4, 3)) (by decide)
theorem zr_75_67 : zSnd 75 67 (o_const 0 68) := zS_iconst (by decide +kernel) rfl (by decide)
theorem zr_75_68 : zSnd 75 68 (o_istore 4 70) := zS_istore (by decide +kernel) rfl (by decide +kernel)
theorem zr_75_70 : zSnd 75 70 (o_aload 0 71) := zS_aload_n (i := 0) (by decide +kernel) rfl rfl
theorem zr_75_71 : zSnd 75 71 (o_getf 6 1 74) := zS_getf (idx := 7) (by decide +kernel) rfl (by decide) rfl (by decide) rfl zin_6 zq_180
theorem zr_75_74 : zSnd 75 74 (o_iload 3 75) := zS_iload_n (i := 3) (by decide +kernel) rfl rfl
theorem zr_75_75 : zSnd 75 75 (o_iload 5 77) := zS_iload (by decide +kernel) rfl
theorem zr_75_77 : zSnd 75 77 (o_call 43 2 2 1 80) := zS_callS (idx := 37) (by decide +kernel) rfl zq_185 zq_186 (by decide +kernel) zMk_43 (by decide +kernel) (by decide +kernel) (by decide +kernel)
theorem zr_75_80 : zSnd 75 80 (o_const 3 81) := zS_iconst (by decide +kernel) rfl (by decide)
theorem zr_75_81 : zSnd 75 81 (o_iadd 82) := zS_iadd (by decide +kernel) rfl
theorem zr_75_82 : zSnd 75 82 (o_iload 4 84) := zS_iload (by decide +kernel) rfl
theorem zr_75_84 : zSnd 75 84 (o_ifeq 92 87) := zS_ifeq (by decide +kernel : decode (zmB 75) 84 = .ok (.ifCond .eq 8, 3)) rfl (by decide)
theorem zr_75_87 : zSnd 75 87 (o_iload 6 89) := zS_iload (by decide +kernel) rfl
theorem zr_75_89 : zSnd 75 89 (o_goto 93) := zS_goto (by decide +kernel : decode (zmB 75) 89 = .ok (.goto 4, 3)) (by decide)
theorem zr_75_92 : zSnd 75 92 (o_const (-1) 93) := zS_iconst (by decide +kernel) rfl (by decide)
theorem zr_75_93 : zSnd 75 93 (o_iast 94) := zS_iast (by decide +kernel) rfl
theorem zr_75_94 : zSnd 75 94 (o_iinc 5 1 97) := zS_iinc (by decide +kernel) rfl (by decide +kernel)
theorem zr_75_97 : zSnd 75 97 (o_goto 18) := zS_goto (by decide +kernel : decode (zmB 75) 97 = .ok (.goto (-79), 3)) (by decide)
theorem zr_75_100 : zSnd 75 100 (o_iinc 3 1 103) := zS_iinc (by decide +kernel) rfl (by decide +kernel)
theorem zr_75_103 : zSnd 75 103 (o_goto 2) := zS_goto (by decide +kernel : decode (zmB 75) 103 = .ok (.goto (-101), 3)) (by decide)
theorem zr_75_106 : zSnd 75 106 (o_aload 0 107) := zS_aload_n (i := 0) (by decide +kernel) rfl rfl
theorem zr_75_107 : zSnd 75 107 (o_iload 2 108) := zS_iload_n (i := 2) (by decide +kernel) rfl rfl
theorem zr_75_108 : zSnd 75 108 (o_iload 1 109) := zS_iload_n (i := 1) (by decide +kernel) rfl rfl
theorem zr_75_109 : zSnd 75 109 (o_callv 6 64 3 11 0 112) := zS_callV (n := 2) (idx := 101) (by decide +kernel) rfl rfl (by decide) rfl zq_244 zq_245 zq_246 (by decide +kernel) zMk_64 (by decide +kernel) (by decide +kernel) (by decide +kernel)
theorem zr_75_112 : zSnd 75 112 (o_ret) := zS_ret (by decide +kernel) (by decide +kernel)
theorem zT_75 (pc : Nat) : zSnd 75 pc (zc_75 pc) := by
  unfold zc_75
  exact (zSn_nd (zSn_nd (zSn_nd (zSn_nd (zSn_nd (zSn_lf zr_75_0) (zSn_nd (zSn_lf zr_75_1) (zSn_lf zr_75_2))) (zSn_nd (zSn_nd (zSn_lf zr_75_3) (zSn_lf zr_75_4)) (zSn_nd (zSn_lf zr_75_7) (zSn_lf zr_75_8)))) (zSn_nd (zSn_nd (zSn_nd (zSn_lf zr_75_9) (zSn_lf zr_75_12)) (zSn_nd (zSn_lf zr_75_13) (zSn_lf zr_75_15))) (zSn_nd (zSn_nd (zSn_lf zr_75_16) (zSn_lf zr_75_18)) (zSn_nd (zSn_lf zr_75_20) (zSn_lf zr_75_21))))) (zSn_nd (zSn_nd (zSn_nd (zSn_nd (zSn_lf zr_75_22) (zSn_lf zr_75_23)) (zSn_nd (zSn_lf zr_75_26) (zSn_lf zr_75_29))) (zSn_nd (zSn_nd (zSn_lf zr_75_30) (zSn_lf zr_75_31)) (zSn_nd (zSn_lf zr_75_33) (zSn_lf zr_75_34)))) (zSn_nd (zSn_nd (zSn_nd (zSn_lf zr_75_37) (zSn_lf zr_75_39)) (zSn_nd (zSn_lf zr_75_41) (zSn_lf zr_75_44))) (zSn_nd (zSn_nd (zSn_lf zr_75_46) (zSn_lf zr_75_47)) (zSn_nd (zSn_lf zr_75_50) (zSn_lf zr_75_51)))))) (zSn_nd (zSn_nd (zSn_nd (zSn_nd (zSn_lf zr_75_52) (zSn_nd (zSn_lf zr_75_54) (zSn_lf zr_75_56))) (zSn_nd (zSn_nd (zSn_lf zr_75_59) (zSn_lf zr_75_60)) (zSn_nd (zSn_lf zr_75_63) (zSn_lf zr_75_64)))) (zSn_nd (zSn_nd (zSn_nd (zSn_lf zr_75_67) (zSn_lf zr_75_68)) (zSn_nd (zSn_lf zr_75_70) (zSn_lf zr_75_71))) (zSn_nd (zSn_nd (zSn_lf zr_75_74) (zSn_lf zr_75_75)) (zSn_nd (zSn_lf zr_75_77) (zSn_lf zr_75_80))))) (zSn_nd (zSn_nd (zSn_nd (zSn_nd (zSn_lf zr_75_81) (zSn_lf zr_75_82)) (zSn_nd (zSn_lf zr_75_84) (zSn_lf zr_75_87))) (zSn_nd (zSn_nd (zSn_lf zr_75_89) (zSn_lf zr_75_92)) (zSn_nd (zSn_lf zr_75_93) (zSn_lf zr_75_94)))) (zSn_nd (zSn_nd (zSn_nd (zSn_lf zr_75_97) (zSn_lf zr_75_100)) (zSn_nd (zSn_lf zr_75_103) (zSn_lf zr_75_106))) (zSn_nd (zSn_nd (zSn_lf zr_75_107) (zSn_lf zr_75_108)) (zSn_nd (zSn_lf zr_75_109) (zSn_lf zr_75_112)))))))
theorem zr_76_0 : zSnd 76 0 (o_iload 0 1) := zS_iload_n (i := 0) (by decide +kernel) rfl rfl
theorem zr_76_1 : zSnd 76 1 (o_const 0 2) := zS_iconst (by decide +kernel) rfl (by decide)
theorem zr_76_2 : zSnd 76 2 (o_const 999 5) := zS_sipush (by decide +kernel) rfl (by decide) (by decide)
theorem zr_76_5 : zSnd 76 5 (o_call 38 3 3 1 8) := zS_callS (idx := 33) (by decide +kernel) rfl zq_183 zq_184 (by decide +kernel) zMk_38 (by decide +kernel) (by decide +kernel) (by decide +kernel)
theorem zr_76_8 : zSnd 76 8 (o_zret) := zS_zret (by decide +kernel) (by decide +kernel)
theorem zT_76 (pc : Nat) : zSnd 76 pc (zc_76 pc) := by
  unfold zc_76
  exact (zSn_nd (zSn_nd (zSn_lf zr_76_0) (zSn_lf zr_76_1)) (zSn_nd (zSn_lf zr_76_2) (zSn_nd (zSn_lf zr_76_5) (zSn_lf zr_76_8))))
theorem zr_77_0 : zSnd 77 0 (o_aload 0 1) := zS_aload_n (i := 0) (by decide +kernel) rfl rfl
theorem zr_77_1 : zSnd 77 1 (o_iload 1 2) := zS_iload_n (i := 1) (by decide +kernel) rfl rfl
theorem zr_77_2 : zSnd 77 2 (o_call 76 1 1 1 5) := zS_callS (idx := 128) (by decide +kernel) rfl zq_267 zq_268 (by decide +kernel) zMk_76 (by decide +kernel) (by decide +kernel) (by decide +kernel)
theorem zr_77_5 : zSnd 77 5 (o_ifeq 15 8) := zS_ifeq (by decide +kernel : decode (zmB 77) 5 = .ok (.ifCond .eq 10, 3)) rfl (by decide)
theorem zr_77_8 : zSnd 77 8 (o_iload 2 9) := zS_iload_n (i := 2) (by decide +kernel) rfl rfl
theorem zr_77_9 : zSnd 77 9 (o_call 69 1 1 1 12) := zS_callS (idx := 108) (by decide +kernel) rfl zq_250 zq_251 (by decide +kernel) zMk_69 (by decide +kernel) (by decide +kernel) (by decide +kernel)
theorem zr_77_12 : zSnd 77 12 (o_ifne 19 15) := zS_ifne (by decide +kernel : decode (zmB 77) 12 = .ok (.ifCond .ne 7, 3)) rfl (by decide)
theorem zr_77_15 : zSnd 77 15 (o_const 1 16) := zS_iconst (by decide +kernel) rfl (by decide)
theorem zr_77_16 : zSnd 77 16 (o_goto 31) := zS_goto (by decide +kernel : decode (zmB 77) 16 = .ok (.goto 15, 3)) (by decide)
theorem zr_77_19 : zSnd 77 19 (o_aload 0 20) := zS_aload_n (i := 0) (by decide +kernel) rfl rfl
theorem zr_77_20 : zSnd 77 20 (o_callv 6 73 1 1 1 23) := zS_callV (n := 0) (idx := 121) (by decide +kernel) rfl rfl (by decide) rfl zq_261 zq_262 zq_263 (by decide +kernel) zMk_73 (by decide +kernel) (by decide +kernel) (by decide +kernel)
theorem zr_77_23 : zSnd 77 23 (o_ifeq 30 26) := zS_ifeq (by decide +kernel : decode (zmB 77) 23 = .ok (.ifCond .eq 7, 3)) rfl (by decide)
theorem zr_77_26 : zSnd 77 26 (o_const 0 27) := zS_iconst (by decide +kernel) rfl (by decide)
theorem zr_77_27 : zSnd 77 27 (o_goto 31) := zS_goto (by decide +kernel : decode (zmB 77) 27 = .ok (.goto 4, 3)) (by decide)
theorem zr_77_30 : zSnd 77 30 (o_const 2 31) := zS_iconst (by decide +kernel) rfl (by decide)
theorem zr_77_31 : zSnd 77 31 (o_putf 6 0 34) := zS_putf (idx := 22) (by decide +kernel) rfl (by decide) rfl (by decide) rfl zin_6 tyX5_ok nmX5 rfl (by decide +kernel) zq_177
theorem zr_77_34 : zSnd 77 34 (o_aload 0 35) := zS_aload_n (i := 0) (by decide +kernel) rfl rfl
theorem zr_77_35 : zSnd 77 35 (o_getf 6 0 38) := zS_getf (idx := 22) (by decide +kernel) rfl (by decide) rfl (by decide) rfl zin_6 zq_177
theorem zr_77_38 : zSnd 77 38 (o_ifle 43 41) := zS_ifle (by decide +kernel : decode (zmB 77) 38 = .ok (.ifCond .le 5, 3)) rfl (by decide)
theorem zr_77_41 : zSnd 77 41 (o_const 0 42) := zS_iconst (by decide +kernel) rfl (by decide)
theorem zr_77_42 : zSnd 77 42 (o_iret) := zS_iret (by decide +kernel) (by decide +kernel)
theorem zr_77_43 : zSnd 77 43 (o_aload 0 44) := zS_aload_n (i := 0) (by decide +kernel) rfl rfl
theorem zr_77_44 : zSnd 77 44 (o_callv 6 39 1 2 0 47) := zS_callV (n := 0) (idx := 48) (by decide +kernel) rfl rfl (by decide) rfl zq_193 zq_194 zq_195 (by decide +kernel) zMk_39 (by decide +kernel) (by decide +kernel) (by decide +kernel)
theorem zr_77_47 : zSnd 77 47 (o_aload 0 48) := zS_aload_n (i := 0) (by decide +kernel) rfl rfl
theorem zr_77_48 : zSnd 77 48 (o_iload 1 49) := zS_iload_n (i := 1) (by decide +kernel) rfl rfl
theorem zr_77_49 : zSnd 77 49 (o_iload 2 50) := zS_iload_n (i := 2) (by decide +kernel) rfl rfl
theorem zr_77_50 : zSnd 77 50 (o_callv 6 75 3 7 0 53) := zS_callV (n := 2) (idx := 131) (by decide +kernel) rfl rfl (by decide) rfl zq_269 zq_270 zq_271 (by decide +kernel) zMk_75 (by decide +kernel) (by decide +kernel) (by decide +kernel)
theorem zr_77_53 : zSnd 77 53 (o_aload 0 54) := zS_aload_n (i := 0) (by decide +kernel) rfl rfl
theorem zr_77_54 : zSnd 77 54 (o_const 3 55) := zS_iconst (by decide +kernel) rfl (by decide)
theorem zr_77_55 : zSnd 77 55 (o_callv 6 66 2 4 1 58) := zS_callV (n := 1) (idx := 115) (by decide +kernel) rfl rfl (by decide) rfl zq_255 zq_256 zq_257 (by decide +kernel) zMk_66 (by decide +kernel) (by decide +kernel) (by decide +kernel)
theorem zr_77_58 : zSnd 77 58 (o_iret) := zS_iret (by decide +kernel) (by decide +kernel)
theorem zT_77 (pc : Nat) : zSnd 77 pc (zc_77 pc) := by
  unfold zc_77
  exact (zSn_nd (zSn_nd (zSn_nd (zSn_nd (zSn_lf zr_77_0) (zSn_nd (zSn_lf zr_77_1) (zSn_lf zr_77_2))) (zSn_nd (zSn_nd (zSn_lf zr_77_5) (zSn_lf zr_77_8)) (zSn_nd (zSn_lf zr_77_9) (zSn_lf zr_77_12)))) (zSn_nd (zSn_nd (zSn_nd (zSn_lf zr_77_15) (zSn_lf zr_77_16)) (zSn_nd (zSn_lf zr_77_19) (zSn_lf zr_77_20))) (zSn_nd (zSn_nd (zSn_lf zr_77_23) (zSn_lf zr_77_26)) (zSn_nd (zSn_lf zr_77_27) (zSn_lf zr_77_30))))) (zSn_nd (zSn_nd (zSn_nd (zSn_nd (zSn_lf zr_77_31) (zSn_lf zr_77_34)) (zSn_nd (zSn_lf zr_77_35) (zSn_lf zr_77_38))) (zSn_nd (zSn_nd (zSn_lf zr_77_41) (zSn_lf zr_77_42)) (zSn_nd (zSn_lf zr_77_43) (zSn_lf zr_77_44)))) (zSn_nd (zSn_nd (zSn_nd (zSn_lf zr_77_47) (zSn_lf zr_77_48)) (zSn_nd (zSn_lf zr_77_49) (zSn_lf zr_77_50))) (zSn_nd (zSn_nd (zSn_lf zr_77_53) (zSn_lf zr_77_54)) (zSn_nd (zSn_lf zr_77_55) (zSn_lf zr_77_58))))))
theorem zr_78_0 : zSnd 78 0 (o_aload 0 1) := zS_aload_n (i := 0) (by decide +kernel) rfl rfl
theorem zr_78_1 : zSnd 78 1 (o_aload 0 2) := zS_aload_n (i := 0) (by decide +kernel) rfl rfl
theorem zr_78_2 : zSnd 78 2 (o_callv 6 73 1 1 1 5) := zS_callV (n := 0) (idx := 121) (by decide +kernel) rfl rfl (by decide) rfl zq_261 zq_262 zq_263 (by decide +kernel) zMk_73 (by decide +kernel) (by decide +kernel) (by decide +kernel)
theorem zr_78_5 : zSnd 78 5 (o_ifeq 12 8) := zS_ifeq (by decide +kernel : decode (zmB 78) 5 = .ok (.ifCond .eq 7, 3)) rfl (by decide)
theorem zr_78_8 : zSnd 78 8 (o_const 0 9) := zS_iconst (by decide +kernel) rfl (by decide)
theorem zr_78_9 : zSnd 78 9 (o_goto 13) := zS_goto (by decide +kernel : decode (zmB 78) 9 = .ok (.goto 4, 3)) (by decide)
theorem zr_78_12 : zSnd 78 12 (o_const 1 13) := zS_iconst (by decide +kernel) rfl (by decide)
theorem zr_78_13 : zSnd 78 13 (o_putf 6 0 16) := zS_putf (idx := 22) (by decide +kernel) rfl (by decide) rfl (by decide) rfl zin_6 tyX5_ok nmX5 rfl (by decide +kernel) zq_177
theorem zr_78_16 : zSnd 78 16 (o_aload 0 17) := zS_aload_n (i := 0) (by decide +kernel) rfl rfl
theorem zr_78_17 : zSnd 78 17 (o_getf 6 0 20) := zS_getf (idx := 22) (by decide +kernel) rfl (by decide) rfl (by decide) rfl zin_6 zq_177
theorem zr_78_20 : zSnd 78 20 (o_ifle 25 23) := zS_ifle (by decide +kernel : decode (zmB 78) 20 = .ok (.ifCond .le 5, 3)) rfl (by decide)
theorem zr_78_23 : zSnd 78 23 (o_const 0 24) := zS_iconst (by decide +kernel) rfl (by decide)
theorem zr_78_24 : zSnd 78 24 (o_iret) := zS_iret (by decide +kernel) (by decide +kernel)
theorem zr_78_25 : zSnd 78 25 (o_aload 0 26) := zS_aload_n (i := 0) (by decide +kernel) rfl rfl
theorem zr_78_26 : zSnd 78 26 (o_callv 6 39 1 2 0 29) := zS_callV (n := 0) (idx := 48) (by decide +kernel) rfl rfl (by decide) rfl zq_193 zq_194 zq_195 (by decide +kernel) zMk_39 (by decide +kernel) (by decide +kernel) (by decide +kernel)
theorem zr_78_29 : zSnd 78 29 (o_aload 0 30) := zS_aload_n (i := 0) (by decide +kernel) rfl rfl
theorem zr_78_30 : zSnd 78 30 (o_const 3 31) := zS_iconst (by decide +kernel) rfl (by decide)
theorem zr_78_31 : zSnd 78 31 (o_const 2 32) := zS_iconst (by decide +kernel) rfl (by decide)
theorem zr_78_32 : zSnd 78 32 (o_callv 6 67 3 6 1 35) := zS_callV (n := 2) (idx := 105) (by decide +kernel) rfl rfl (by decide) rfl zq_247 zq_248 zq_249 (by decide +kernel) zMk_67 (by decide +kernel) (by decide +kernel) (by decide +kernel)
theorem zr_78_35 : zSnd 78 35 (o_iret) := zS_iret (by decide +kernel) (by decide +kernel)
theorem zT_78 (pc : Nat) : zSnd 78 pc (zc_78 pc) := by
  unfold zc_78
  exact (zSn_nd (zSn_nd (zSn_nd (zSn_nd (zSn_lf zr_78_0) (zSn_lf zr_78_1)) (zSn_nd (zSn_lf zr_78_2) (zSn_nd (zSn_lf zr_78_5) (zSn_lf zr_78_8)))) (zSn_nd (zSn_nd (zSn_lf zr_78_9) (zSn_lf zr_78_12)) (zSn_nd (zSn_lf zr_78_13) (zSn_nd (zSn_lf zr_78_16) (zSn_lf zr_78_17))))) (zSn_nd (zSn_nd (zSn_nd (zSn_lf zr_78_20) (zSn_lf zr_78_23)) (zSn_nd (zSn_lf zr_78_24) (zSn_nd (zSn_lf zr_78_25) (zSn_lf zr_78_26)))) (zSn_nd (zSn_nd (zSn_lf zr_78_29) (zSn_lf zr_78_30)) (zSn_nd (zSn_lf zr_78_31) (zSn_nd (zSn_lf zr_78_32) (zSn_lf zr_78_35))))))
theorem zr_79_0 : zSnd 79 0 (o_aload 0 1) := zS_aload_n (i := 0) (by decide +kernel) rfl rfl
theorem zr_79_1 : zSnd 79 1 (o_aload 0 2) := zS_aload_n (i := 0) (by decide +kernel) rfl rfl
theorem zr_79_2 : zSnd 79 2 (o_iload 1 3) := zS_iload_n (i := 1) (by decide +kernel) rfl rfl
theorem zr_79_3 : zSnd 79 3 (o_callv 6 41 2 2 1 6) := zS_callV (n := 1) (idx := 41) (by decide +kernel) rfl rfl (by decide) rfl zq_187 zq_188 zq_189 (by decide +kernel) zMk_41 (by decide +kernel) (by decide +kernel) (by decide +kernel)
theorem zr_79_6 : zSnd 79 6 (o_ifne 13 9) := zS_ifne (by decide +kernel : decode (zmB 79) 6 = .ok (.ifCond .ne 7, 3)) rfl (by decide)
theorem zr_79_9 : zSnd 79 9 (o_const 1 10) := zS_iconst (by decide +kernel) rfl (by decide)
theorem zr_79_10 : zSnd 79 10 (o_goto 46) := zS_goto (by decide +kernel : decode (zmB 79) 10 = .ok (.goto 36, 3)) (by decide)
theorem zr_79_13 : zSnd 79 13 (o_iload 2 14) := zS_iload_n (i := 2) (by decide +kernel) rfl rfl
theorem zr_79_14 : zSnd 79 14 (o_const 1 15) := zS_iconst (by decide +kernel) rfl (by decide)
theorem zr_79_15 : zSnd 79 15 (o_const 99 17) := zS_bipush (by decide +kernel) rfl (by decide) (by decide)
theorem zr_79_17 : zSnd 79 17 (o_call 38 3 3 1 20) := zS_callS (idx := 33) (by decide +kernel) rfl zq_183 zq_184 (by decide +kernel) zMk_38 (by decide +kernel) (by decide +kernel) (by decide +kernel)
theorem zr_79_20 : zSnd 79 20 (o_ifne 27 23) := zS_ifne (by decide +kernel : decode (zmB 79) 20 = .ok (.ifCond .ne 7, 3)) rfl (by decide)
theorem zr_79_23 : zSnd 79 23 (o_const 2 24) := zS_iconst (by decide +kernel) rfl (by decide)
theorem zr_79_24 : zSnd 79 24 (o_goto 46) := zS_goto (by decide +kernel : decode (zmB 79) 24 = .ok (.goto 22, 3)) (by decide)
theorem zr_79_27 : zSnd 79 27 (o_aload 0 28) := zS_aload_n (i := 0) (by decide +kernel) rfl rfl
theorem zr_79_28 : zSnd 79 28 (o_iload 1 29) := zS_iload_n (i := 1) (by decide +kernel) rfl rfl
theorem zr_79_29 : zSnd 79 29 (o_const 1 30) := zS_iconst (by decide +kernel) rfl (by decide)
theorem zr_79_30 : zSnd 79 30 (o_callv 6 42 3 3 1 33) := zS_callV (n := 2) (idx := 45) (by decide +kernel) rfl rfl (by decide) rfl zq_190 zq_191 zq_192 (by decide +kernel) zMk_42 (by decide +kernel) (by decide +kernel) (by decide +kernel)
theorem zr_79_33 : zSnd 79 33 (o_iload 2 34) := zS_iload_n (i := 2) (by decide +kernel) rfl rfl
theorem zr_79_34 : zSnd 79 34 (o_iadd 35) := zS_iadd (by decide +kernel) rfl
theorem zr_79_35 : zSnd 79 35 (o_const 999 38) := zS_sipush (by decide +kernel) rfl (by decide) (by decide)
theorem zr_79_38 : zSnd 79 38 (o_cle 45 41) := zS_cle (by decide +kernel : decode (zmB 79) 38 = .ok (.if_icmp .le 7, 3)) rfl (by decide)
theorem zr_79_41 : zSnd 79 41 (o_const 3 42) := zS_iconst (by decide +kernel) rfl (by decide)
theorem zr_79_42 : zSnd 79 42 (o_goto 46) := zS_goto (by decide +kernel : decode (zmB 79) 42 = .ok (.goto 4, 3)) (by decide)
theorem zr_79_45 : zSnd 79 45 (o_const 0 46) := zS_iconst (by decide +kernel) rfl (by decide)
theorem zr_79_46 : zSnd 79 46 (o_putf 6 0 49) := zS_putf (idx := 22) (by decide +kernel) rfl (by decide) rfl (by decide) rfl zin_6 tyX5_ok nmX5 rfl (by decide +kernel) zq_177
theorem zr_79_49 : zSnd 79 49 (o_aload 0 50) := zS_aload_n (i := 0) (by decide +kernel) rfl rfl
theorem zr_79_50 : zSnd 79 50 (o_getf 6 0 53) := zS_getf (idx := 22) (by decide +kernel) rfl (by decide) rfl (by decide) rfl zin_6 zq_177
theorem zr_79_53 : zSnd 79 53 (o_ifle 58 56) := zS_ifle (by decide +kernel : decode (zmB 79) 53 = .ok (.ifCond .le 5, 3)) rfl (by decide)
theorem zr_79_56 : zSnd 79 56 (o_const 0 57) := zS_iconst (by decide +kernel) rfl (by decide)
theorem zr_79_57 : zSnd 79 57 (o_iret) := zS_iret (by decide +kernel) (by decide +kernel)
theorem zr_79_58 : zSnd 79 58 (o_aload 0 59) := zS_aload_n (i := 0) (by decide +kernel) rfl rfl
theorem zr_79_59 : zSnd 79 59 (o_callv 6 39 1 2 0 62) := zS_callV (n := 0) (idx := 48) (by decide +kernel) rfl rfl (by decide) rfl zq_193 zq_194 zq_195 (by decide +kernel) zMk_39 (by decide +kernel) (by decide +kernel) (by decide +kernel)
theorem zr_79_62 : zSnd 79 62 (o_aload 0 63) := zS_aload_n (i := 0) (by decide +kernel) rfl rfl
theorem zr_79_63 : zSnd 79 63 (o_getf 6 1 66) := zS_getf (idx := 7) (by decide +kernel) rfl (by decide) rfl (by decide) rfl zin_6 zq_180
theorem zr_79_66 : zSnd 79 66 (o_const 5 67) := zS_iconst (by decide +kernel) rfl (by decide)
theorem zr_79_67 : zSnd 79 67 (o_const 3 68) := zS_iconst (by decide +kernel) rfl (by decide)
theorem zr_79_68 : zSnd 79 68 (o_iload 1 69) := zS_iload_n (i := 1) (by decide +kernel) rfl rfl
theorem zr_79_69 : zSnd 79 69 (o_imul 70) := zS_imul (by decide +kernel) rfl
theorem zr_79_70 : zSnd 79 70 (o_iadd 71) := zS_iadd (by decide +kernel) rfl
theorem zr_79_71 : zSnd 79 71 (o_const 1 72) := zS_iconst (by decide +kernel) rfl (by decide)
theorem zr_79_72 : zSnd 79 72 (o_iadd 73) := zS_iadd (by decide +kernel) rfl
theorem zr_79_73 : zSnd 79 73 (o_dup2 74) := zS_dup2 (by decide +kernel) rfl
theorem zr_79_74 : zSnd 79 74 (o_iald 75) := zS_iald (by decide +kernel) rfl
theorem zr_79_75 : zSnd 79 75 (o_iload 2 76) := zS_iload_n (i := 2) (by decide +kernel) rfl rfl
theorem zr_79_76 : zSnd 79 76 (o_iadd 77) := zS_iadd (by decide +kernel) rfl
theorem zr_79_77 : zSnd 79 77 (o_iast 78) := zS_iast (by decide +kernel) rfl
theorem zr_79_78 : zSnd 79 78 (o_aload 0 79) := zS_aload_n (i := 0) (by decide +kernel) rfl rfl
theorem zr_79_79 : zSnd 79 79 (o_getf 6 1 82) := zS_getf (idx := 7) (by decide +kernel) rfl (by decide) rfl (by decide) rfl zin_6 zq_180
theorem zr_79_82 : zSnd 79 82 (o_const 4 83) := zS_iconst (by decide +kernel) rfl (by decide)
theorem zr_79_83 : zSnd 79 83 (o_dup2 84) := zS_dup2 (by decide +kernel) rfl
theorem zr_79_84 : zSnd 79 84 (o_iald 85) := zS_iald (by decide +kernel) rfl
theorem zr_79_85 : zSnd 79 85 (o_iload 2 86) := zS_iload_n (i := 2) (by decide +kernel) rfl rfl
theorem zr_79_86 : zSnd 79 86 (o_aload 0 87) := zS_aload_n (i := 0) (by decide +kernel) rfl rfl
theorem zr_79_87 : zSnd 79 87 (o_iload 1 88) := zS_iload_n (i := 1) (by decide +kernel) rfl rfl
theorem zr_79_88 : zSnd 79 88 (o_const 0 89) := zS_iconst (by decide +kernel) rfl (by decide)
theorem zr_79_89 : zSnd 79 89 (o_callv 6 42 3 3 1 92) := zS_callV (n := 2) (idx := 45) (by decide +kernel) rfl rfl (by decide) rfl zq_190 zq_191 zq_192 (by decide +kernel) zMk_42 (by decide +kernel) (by decide +kernel) (by decide +kernel)
theorem zr_79_92 : zSnd 79 92 (o_imul 93) := zS_imul (by decide +kernel) rfl
theorem zr_79_93 : zSnd 79 93 (o_iadd 94) := zS_iadd (by decide +kernel) rfl
theorem zr_79_94 : zSnd 79 94 (o_iast 95) := zS_iast (by decide +kernel) rfl
theorem zr_79_95 : zSnd 79 95 (o_aload 0 96) := zS_aload_n (i := 0) (by decide +kernel) rfl rfl
theorem zr_79_96 : zSnd 79 96 (o_iload 1 97) := zS_iload_n (i := 1) (by decide +kernel) rfl rfl
theorem zr_79_97 : zSnd 79 97 (o_const 1 98) := zS_iconst (by decide +kernel) rfl (by decide)
theorem zr_79_98 : zSnd 79 98 (o_callv 6 42 3 3 1 101) := zS_callV (n := 2) (idx := 45) (by decide +kernel) rfl rfl (by decide) rfl zq_190 zq_191 zq_192 (by decide +kernel) zMk_42 (by decide +kernel) (by decide +kernel) (by decide +kernel)
theorem zr_79_101 : zSnd 79 101 (o_iret) := zS_iret (by decide +kernel) (by decide +kernel)
theorem zT_79 (pc : Nat) : zSnd 79 pc (zc_79 pc) := by
  unfold zc_79
  exact (zSn_nd (zSn_nd (zSn_nd (zSn_nd (zSn_nd (zSn_nd (zSn_lf zr_79_0) (zSn_lf zr_79_1)) (zSn_nd (zSn_lf zr_79_2) (zSn_lf zr_79_3))) (zSn_nd (zSn_nd (zSn_lf zr_79_6) (zSn_lf zr_79_9)) (zSn_nd (zSn_lf zr_79_10) (zSn_lf zr_79_13)))) (zSn_nd (zSn_nd (zSn_nd (zSn_lf zr_79_14) (zSn_lf zr_79_15)) (zSn_nd (zSn_lf zr_79_17) (zSn_lf zr_79_20))) (zSn_nd (zSn_nd (zSn_lf zr_79_23) (zSn_lf zr_79_24)) (zSn_nd (zSn_lf zr_79_27) (zSn_lf zr_79_28))))) (zSn_nd (zSn_nd (zSn_nd (zSn_nd (zSn_lf zr_79_29) (zSn_lf zr_79_30)) (zSn_nd (zSn_lf zr_79_33) (zSn_lf zr_79_34))) (zSn_nd (zSn_nd (zSn_lf zr_79_35) (zSn_lf zr_79_38)) (zSn_nd (zSn_lf zr_79_41) (zSn_lf zr_79_42)))) (zSn_nd (zSn_nd (zSn_nd (zSn_lf zr_79_45) (zSn_lf zr_79_46)) (zSn_nd (zSn_lf zr_79_49) (zSn_lf zr_79_50))) (zSn_nd (zSn_nd (zSn_lf zr_79_53) (zSn_lf zr_79_56)) (zSn_nd (zSn_lf zr_79_57) (zSn_lf zr_79_58)))))) (zSn_nd (zSn_nd (zSn_nd (zSn_nd (zSn_nd (zSn_lf zr_79_59) (zSn_lf zr_79_62)) (zSn_nd (zSn_lf zr_79_63) (zSn_lf zr_79_66))) (zSn_nd (zSn_nd (zSn_lf zr_79_67) (zSn_lf zr_79_68)) (zSn_nd (zSn_lf zr_79_69) (zSn_lf zr_79_70)))) (zSn_nd (zSn_nd (zSn_nd (zSn_lf zr_79_71) (zSn_lf zr_79_72)) (zSn_nd (zSn_lf zr_79_73) (zSn_lf zr_79_74))) (zSn_nd (zSn_nd (zSn_lf zr_79_75) (zSn_lf zr_79_76)) (zSn_nd (zSn_lf zr_79_77) (zSn_lf zr_79_78))))) (zSn_nd (zSn_nd (zSn_nd (zSn_nd (zSn_lf zr_79_79) (zSn_lf zr_79_82)) (zSn_nd (zSn_lf zr_79_83) (zSn_lf zr_79_84))) (zSn_nd (zSn_nd (zSn_lf zr_79_85) (zSn_lf zr_79_86)) (zSn_nd (zSn_lf zr_79_87) (zSn_lf zr_79_88)))) (zSn_nd (zSn_nd (zSn_nd (zSn_lf zr_79_89) (zSn_lf zr_79_92)) (zSn_nd (zSn_lf zr_79_93) (zSn_lf zr_79_94))) (zSn_nd (zSn_nd (zSn_lf zr_79_95) (zSn_lf zr_79_96)) (zSn_nd (zSn_lf zr_79_97) (zSn_nd (zSn_lf zr_79_98) (zSn_lf zr_79_101))))))))
theorem zr_80_0 : zSnd 80 0 (o_aload 0 1) := zS_aload_n (i := 0) (by decide +kernel) rfl rfl
theorem zr_80_1 : zSnd 80 1 (o_aload 0 2) := zS_aload_n (i := 0) (by decide +kernel) rfl rfl
theorem zr_80_2 : zSnd 80 2 (o_iload 1 3) := zS_iload_n (i := 1) (by decide +kernel) rfl rfl
theorem zr_80_3 : zSnd 80 3 (o_iload 2 4) := zS_iload_n (i := 2) (by decide +kernel) rfl rfl
theorem zr_80_4 : zSnd 80 4 (o_callv 6 45 3 3 1 7) := zS_callV (n := 2) (idx := 134) (by decide +kernel) rfl rfl (by decide) rfl zq_272 zq_273 zq_274 (by decide +kernel) zMk_45 (by decide +kernel) (by decide +kernel) (by decide +kernel)
theorem zr_80_7 : zSnd 80 7 (o_ifne 14 10) := zS_ifne (by decide +kernel : decode (zmB 80) 7 = .ok (.ifCond .ne 7, 3)) rfl (by decide)
theorem zr_80_10 : zSnd 80 10 (o_const 1 11) := zS_iconst (by decide +kernel) rfl (by decide)
theorem zr_80_11 : zSnd 80 11 (o_goto 30) := zS_goto (by decide +kernel : decode (zmB 80) 11 = .ok (.goto 19, 3)) (by decide)
theorem zr_80_14 : zSnd 80 14 (o_aload 0 15) := zS_aload_n (i := 0) (by decide +kernel) rfl rfl
theorem zr_80_15 : zSnd 80 15 (o_iload 1 16) := zS_iload_n (i := 1) (by decide +kernel) rfl rfl
theorem zr_80_16 : zSnd 80 16 (o_iload 2 17) := zS_iload_n (i := 2) (by decide +kernel) rfl rfl
theorem zr_80_17 : zSnd 80 17 (o_const 1 18) := zS_iconst (by decide +kernel) rfl (by decide)
theorem zr_80_18 : zSnd 80 18 (o_callv 6 44 4 4 1 21) := zS_callV (n := 3) (idx := 73) (by decide +kernel) rfl rfl (by decide) rfl zq_217 zq_218 zq_219 (by decide +kernel) zMk_44 (by decide +kernel) (by decide +kernel) (by decide +kernel)
theorem zr_80_21 : zSnd 80 21 (o_const 1 22) := zS_iconst (by decide +kernel) rfl (by decide)
theorem zr_80_22 : zSnd 80 22 (o_cne 29 25) := zS_cne (by decide +kernel : decode (zmB 80) 22 = .ok (.if_icmp .ne 7, 3)) rfl (by decide)
theorem zr_80_25 : zSnd 80 25 (o_const 2 26) := zS_iconst (by decide +kernel) rfl (by decide)
theorem zr_80_26 : zSnd 80 26 (o_goto 30) := zS_goto (by decide +kernel : decode (zmB 80) 26 = .ok (.goto 4, 3)) (by decide)
theorem zr_80_29 : zSnd 80 29 (o_const 0 30) := zS_iconst (by decide +kernel) rfl (by decide)
theorem zr_80_30 : zSnd 80 30 (o_putf 6 0 33) := zS_putf (idx := 22) (by decide +kernel) rfl (by decide) rfl (by decide) rfl zin_6 tyX5_ok nmX5 rfl (by decide +kernel) zq_177
theorem zr_80_33 : zSnd 80 33 (o_aload 0 34) := zS_aload_n (i := 0) (by decide +kernel) rfl rfl
theorem zr_80_34 : zSnd 80 34 (o_getf 6 0 37) := zS_getf (idx := 22) (by decide +kernel) rfl (by decide) rfl (by decide) rfl zin_6 zq_177
theorem zr_80_37 : zSnd 80 37 (o_ifle 42 40) := zS_ifle (by decide +kernel : decode (zmB 80) 37 = .ok (.ifCond .le 5, 3)) rfl (by decide)
theorem zr_80_40 : zSnd 80 40 (o_const 0 41) := zS_iconst (by decide +kernel) rfl (by decide)
theorem zr_80_41 : zSnd 80 41 (o_iret) := zS_iret (by decide +kernel) (by decide +kernel)
theorem zr_80_42 : zSnd 80 42 (o_aload 0 43) := zS_aload_n (i := 0) (by decide +kernel) rfl rfl
theorem zr_80_43 : zSnd 80 43 (o_callv 6 39 1 2 0 46) := zS_callV (n := 0) (idx := 48) (by decide +kernel) rfl rfl (by decide) rfl zq_193 zq_194 zq_195 (by decide +kernel) zMk_39 (by decide +kernel) (by decide +kernel) (by decide +kernel)
theorem zr_80_46 : zSnd 80 46 (o_aload 0 47) := zS_aload_n (i := 0) (by decide +kernel) rfl rfl
theorem zr_80_47 : zSnd 80 47 (o_getf 6 1 50) := zS_getf (idx := 7) (by decide +kernel) rfl (by decide) rfl (by decide) rfl zin_6 zq_180
theorem zr_80_50 : zSnd 80 50 (o_iload 1 51) := zS_iload_n (i := 1) (by decide +kernel) rfl rfl
theorem zr_80_51 : zSnd 80 51 (o_iload 2 52) := zS_iload_n (i := 2) (by decide +kernel) rfl rfl
theorem zr_80_52 : zSnd 80 52 (o_call 43 2 2 1 55) := zS_callS (idx := 37) (by decide +kernel) rfl zq_185 zq_186 (by decide +kernel) zMk_43 (by decide +kernel) (by decide +kernel) (by decide +kernel)
theorem zr_80_55 : zSnd 80 55 (o_const 1 56) := zS_iconst (by decide +kernel) rfl (by decide)
theorem zr_80_56 : zSnd 80 56 (o_iadd 57) := zS_iadd (by decide +kernel) rfl
theorem zr_80_57 : zSnd 80 57 (o_dup2 58) := zS_dup2 (by decide +kernel) rfl
theorem zr_80_58 : zSnd 80 58 (o_iald 59) := zS_iald (by decide +kernel) rfl
theorem zr_80_59 : zSnd 80 59 (o_const 1 60) := zS_iconst (by decide +kernel) rfl (by decide)
theorem zr_80_60 : zSnd 80 60 (o_isub 61) := zS_isub (by decide +kernel) rfl
theorem zr_80_61 : zSnd 80 61 (o_iast 62) := zS_iast (by decide +kernel) rfl
theorem zr_80_62 : zSnd 80 62 (o_aload 0 63) := zS_aload_n (i := 0) (by decide +kernel) rfl rfl
theorem zr_80_63 : zSnd 80 63 (o_getf 6 1 66) := zS_getf (idx := 7) (by decide +kernel) rfl (by decide) rfl (by decide) rfl zin_6 zq_180
theorem zr_80_66 : zSnd 80 66 (o_const 4 67) := zS_iconst (by decide +kernel) rfl (by decide)
theorem zr_80_67 : zSnd 80 67 (o_dup2 68) := zS_dup2 (by decide +kernel) rfl
theorem zr_80_68 : zSnd 80 68 (o_iald 69) := zS_iald (by decide +kernel) rfl
theorem zr_80_69 : zSnd 80 69 (o_const 3 70) := zS_iconst (by decide +kernel) rfl (by decide)
theorem zr_80_70 : zSnd 80 70 (o_iadd 71) := zS_iadd (by decide +kernel) rfl
theorem zr_80_71 : zSnd 80 71 (o_iast 72) := zS_iast (by decide +kernel) rfl
theorem zr_80_72 : zSnd 80 72 (o_aload 0 73) := zS_aload_n (i := 0) (by decide +kernel) rfl rfl
theorem zr_80_73 : zSnd 80 73 (o_getf 6 1 76) := zS_getf (idx := 7) (by decide +kernel) rfl (by decide) rfl (by decide) rfl zin_6 zq_180
theorem zr_80_76 : zSnd 80 76 (o_const 3 77) := zS_iconst (by decide +kernel) rfl (by decide)
theorem zr_80_77 : zSnd 80 77 (o_const 0 78) := zS_iconst (by decide +kernel) rfl (by decide)
theorem zr_80_78 : zSnd 80 78 (o_iast 79) := zS_iast (by decide +kernel) rfl
theorem zr_80_79 : zSnd 80 79 (o_aload 0 80) := zS_aload_n (i := 0) (by decide +kernel) rfl rfl
theorem zr_80_80 : zSnd 80 80 (o_iload 1 81) := zS_iload_n (i := 1) (by decide +kernel) rfl rfl
theorem zr_80_81 : zSnd 80 81 (o_iload 2 82) := zS_iload_n (i := 2) (by decide +kernel) rfl rfl
theorem zr_80_82 : zSnd 80 82 (o_const 1 83) := zS_iconst (by decide +kernel) rfl (by decide)
theorem zr_80_83 : zSnd 80 83 (o_callv 6 44 4 4 1 86) := zS_callV (n := 3) (idx := 73) (by decide +kernel) rfl rfl (by decide) rfl zq_217 zq_218 zq_219 (by decide +kernel) zMk_44 (by decide +kernel) (by decide +kernel) (by decide +kernel)
theorem zr_80_86 : zSnd 80 86 (o_iret) := zS_iret (by decide +kernel) (by decide +kernel)
theorem zT_80 (pc : Nat) : zSnd 80 pc (zc_80 pc) := by
  unfold zc_80
  exact (zSn_nd (zSn_nd (zSn_nd (zSn_nd (zSn_nd (zSn_lf zr_80_0) (zSn_nd (zSn_lf zr_80_1) (zSn_lf zr_80_2))) (zSn_nd (zSn_nd (zSn_lf zr_80_3) (zSn_lf zr_80_4)) (zSn_nd (zSn_lf zr_80_7) (zSn_lf zr_80_10)))) (zSn_nd (zSn_nd (zSn_lf zr_80_11) (zSn_nd (zSn_lf zr_80_14) (zSn_lf zr_80_15))) (zSn_nd (zSn_nd (zSn_lf zr_80_16) (zSn_lf zr_80_17)) (zSn_nd (zSn_lf zr_80_18) (zSn_lf zr_80_21))))) (zSn_nd (zSn_nd (zSn_nd (zSn_lf zr_80_22) (zSn_nd (zSn_lf zr_80_25) (zSn_lf zr_80_26))) (zSn_nd (zSn_nd (zSn_lf zr_80_29) (zSn_lf zr_80_30)) (zSn_nd (zSn_lf zr_80_33) (zSn_lf zr_80_34)))) (zSn_nd (zSn_nd (zSn_lf zr_80_37) (zSn_nd (zSn_lf zr_80_40) (zSn_lf zr_80_41))) (zSn_nd (zSn_nd (zSn_lf zr_80_42) (zSn_lf zr_80_43)) (zSn_nd (zSn_lf zr_80_46) (zSn_lf zr_80_47)))))) (zSn_nd (zSn_nd (zSn_nd (zSn_nd (zSn_lf zr_80_50) (zSn_nd (zSn_lf zr_80_51) (zSn_lf zr_80_52))) (zSn_nd (zSn_nd (zSn_lf zr_80_55) (zSn_lf zr_80_56)) (zSn_nd (zSn_lf zr_80_57) (zSn_lf zr_80_58)))) (zSn_nd (zSn_nd (zSn_lf zr_80_59) (zSn_nd (zSn_lf zr_80_60) (zSn_lf zr_80_61))) (zSn_nd (zSn_nd (zSn_lf zr_80_62) (zSn_lf zr_80_63)) (zSn_nd (zSn_lf zr_80_66) (zSn_lf zr_80_67))))) (zSn_nd (zSn_nd (zSn_nd (zSn_lf zr_80_68) (zSn_nd (zSn_lf zr_80_69) (zSn_lf zr_80_70))) (zSn_nd (zSn_nd (zSn_lf zr_80_71) (zSn_lf zr_80_72)) (zSn_nd (zSn_lf zr_80_73) (zSn_lf zr_80_76)))) (zSn_nd (zSn_nd (zSn_nd (zSn_lf zr_80_77) (zSn_lf zr_80_78)) (zSn_nd (zSn_lf zr_80_79) (zSn_lf zr_80_80))) (zSn_nd (zSn_nd (zSn_lf zr_80_81) (zSn_lf zr_80_82)) (zSn_nd (zSn_lf zr_80_83) (zSn_lf zr_80_86)))))))
theorem zr_81_0 : zSnd 81 0 (o_aload 0 1) := zS_aload_n (i := 0) (by decide +kernel) rfl rfl
theorem zr_81_1 : zSnd 81 1 (o_iload 1 2) := zS_iload_n (i := 1) (by decide +kernel) rfl rfl
theorem zr_81_2 : zSnd 81 2 (o_const 2 3) := zS_iconst (by decide +kernel) rfl (by decide)
theorem zr_81_3 : zSnd 81 3 (o_callv 6 42 3 3 1 6) := zS_callV (n := 2) (idx := 45) (by decide +kernel) rfl rfl (by decide) rfl zq_190 zq_191 zq_192 (by decide +kernel) zMk_42 (by decide +kernel) (by decide +kernel) (by decide +kernel)
theorem zr_81_6 : zSnd 81 6 (o_istore 3 7) := zS_istore_n (i := 3) (by decide +kernel) rfl rfl (by decide +kernel)
theorem zr_81_7 : zSnd 81 7 (o_const 0 8) := zS_iconst (by decide +kernel) rfl (by decide)
theorem zr_81_8 : zSnd 81 8 (o_istore 4 10) := zS_istore (by decide +kernel) rfl (by decide +kernel)
theorem zr_81_10 : zSnd 81 10 (o_const 0 11) := zS_iconst (by decide +kernel) rfl (by decide)
theorem zr_81_11 : zSnd 81 11 (o_istore 5 13) := zS_istore (by decide +kernel) rfl (by decide +kernel)
theorem zr_81_13 : zSnd 81 13 (o_iload 5 15) := zS_iload (by decide +kernel) rfl
theorem zr_81_15 : zSnd 81 15 (o_iload 3 16) := zS_iload_n (i := 3) (by decide +kernel) rfl rfl
theorem zr_81_16 : zSnd 81 16 (o_cge 38 19) := zS_cge (by decide +kernel : decode (zmB 81) 16 = .ok (.if_icmp .ge 22, 3)) rfl (by decide)
theorem zr_81_19 : zSnd 81 19 (o_iload 4 21) := zS_iload (by decide +kernel) rfl
theorem zr_81_21 : zSnd 81 21 (o_aload 0 22) := zS_aload_n (i := 0) (by decide +kernel) rfl rfl
theorem zr_81_22 : zSnd 81 22 (o_iload 1 23) := zS_iload_n (i := 1) (by decide +kernel) rfl rfl
theorem zr_81_23 : zSnd 81 23 (o_iload 5 25) := zS_iload (by decide +kernel) rfl
theorem zr_81_25 : zSnd 81 25 (o_const 1 26) := zS_iconst (by decide +kernel) rfl (by decide)
theorem zr_81_26 : zSnd 81 26 (o_callv 6 44 4 4 1 29) := zS_callV (n := 3) (idx := 73) (by decide +kernel) rfl rfl (by decide) rfl zq_217 zq_218 zq_219 (by decide +kernel) zMk_44 (by decide +kernel) (by decide +kernel) (by decide +kernel)
theorem zr_81_29 : zSnd 81 29 (o_iadd 30) := zS_iadd (by decide +kernel) rfl
theorem zr_81_30 : zSnd 81 30 (o_istore 4 32) := zS_istore (by decide +kernel) rfl (by decide +kernel)
theorem zr_81_32 : zSnd 81 32 (o_iinc 5 1 35) := zS_iinc (by decide +kernel) rfl (by decide +kernel)
theorem zr_81_35 : zSnd 81 35 (o_goto 13) := zS_goto (by decide +kernel : decode (zmB 81) 35 = .ok (.goto (-22), 3)) (by decide)
theorem zr_81_38 : zSnd 81 38 (o_iload 2 39) := zS_iload_n (i := 2) (by decide +kernel) rfl rfl
theorem zr_81_39 : zSnd 81 39 (o_sw [(3, 64), (4, 67), (5, 92)] 110) := zS_tsw (n := 3) (by decide +kernel : decode (zmB 81) 39 = .ok (.tableswitch 71 3 5 #[25, 28, 53], 25)) (by decide) (by decide +kernel) (by intro x hx; simp only [zsw]; (repeat' split) <;> omega) (by decide)
theorem zr_81_64 : zSnd 81 64 (o_iload 4 66) := zS_iload (by decide +kernel) rfl
theorem zr_81_66 : zSnd 81 66 (o_iret) := zS_iret (by decide +kernel) (by decide +kernel)
theorem zr_81_67 : zSnd 81 67 (o_aload 0 68) := zS_aload_n (i := 0) (by decide +kernel) rfl rfl
theorem zr_81_68 : zSnd 81 68 (o_callv 6 73 1 1 1 71) := zS_callV (n := 0) (idx := 121) (by decide +kernel) rfl rfl (by decide) rfl zq_261 zq_262 zq_263 (by decide +kernel) zMk_73 (by decide +kernel) (by decide +kernel) (by decide +kernel)
theorem zr_81_71 : zSnd 81 71 (o_ifeq 90 74) := zS_ifeq (by decide +kernel : decode (zmB 81) 71 = .ok (.ifCond .eq 19, 3)) rfl (by decide)
theorem zr_81_74 : zSnd 81 74 (o_iload 3 75) := zS_iload_n (i := 3) (by decide +kernel) rfl rfl
theorem zr_81_75 : zSnd 81 75 (o_ifle 90 78) := zS_ifle (by decide +kernel : decode (zmB 81) 75 = .ok (.ifCond .le 15, 3)) rfl (by decide)
theorem zr_81_78 : zSnd 81 78 (o_aload 0 79) := zS_aload_n (i := 0) (by decide +kernel) rfl rfl
theorem zr_81_79 : zSnd 81 79 (o_iload 1 80) := zS_iload_n (i := 1) (by decide +kernel) rfl rfl
theorem zr_81_80 : zSnd 81 80 (o_iload 3 81) := zS_iload_n (i := 3) (by decide +kernel) rfl rfl
theorem zr_81_81 : zSnd 81 81 (o_const 1 82) := zS_iconst (by decide +kernel) rfl (by decide)
theorem zr_81_82 : zSnd 81 82 (o_isub 83) := zS_isub (by decide +kernel) rfl
theorem zr_81_83 : zSnd 81 83 (o_const 3 84) := zS_iconst (by decide +kernel) rfl (by decide)
theorem zr_81_84 : zSnd 81 84 (o_callv 6 60 4 4 1 87) := zS_callV (n := 3) (idx := 82) (by decide +kernel) rfl rfl (by decide) rfl zq_226 zq_227 zq_228 (by decide +kernel) zMk_60 (by decide +kernel) (by decide +kernel) (by decide +kernel)
theorem zr_81_87 : zSnd 81 87 (o_goto 91) := zS_goto (by decide +kernel : decode (zmB 81) 87 = .ok (.goto 4, 3)) (by decide)
theorem zr_81_90 : zSnd 81 90 (o_const (-1) 91) := zS_iconst (by decide +kernel) rfl (by decide)
theorem zr_81_91 : zSnd 81 91 (o_iret) := zS_iret (by decide +kernel) (by decide +kernel)
theorem zr_81_92 : zSnd 81 92 (o_aload 0 93) := zS_aload_n (i := 0) (by decide +kernel) rfl rfl
theorem zr_81_93 : zSnd 81 93 (o_callv 6 73 1 1 1 96) := zS_callV (n := 0) (idx := 121) (by decide +kernel) rfl rfl (by decide) rfl zq_261 zq_262 zq_263 (by decide +kernel) zMk_73 (by decide +kernel) (by decide +kernel) (by decide +kernel)
theorem zr_81_96 : zSnd 81 96 (o_ifeq 108 99) := zS_ifeq (by decide +kernel : decode (zmB 81) 96 = .ok (.ifCond .eq 12, 3)) rfl (by decide)
theorem zr_81_99 : zSnd 81 99 (o_aload 0 100) := zS_aload_n (i := 0) (by decide +kernel) rfl rfl
theorem zr_81_100 : zSnd 81 100 (o_iload 1 101) := zS_iload_n (i := 1) (by decide +kernel) rfl rfl
theorem zr_81_101 : zSnd 81 101 (o_const 3 102) := zS_iconst (by decide +kernel) rfl (by decide)
theorem zr_81_102 : zSnd 81 102 (o_callv 6 65 3 5 1 105) := zS_callV (n := 2) (idx := 98) (by decide +kernel) rfl rfl (by decide) rfl zq_241 zq_242 zq_243 (by decide +kernel) zMk_65 (by decide +kernel) (by decide +kernel) (by decide +kernel)
theorem zr_81_105 : zSnd 81 105 (o_goto 109) := zS_goto (by decide +kernel : decode (zmB 81) 105 = .ok (.goto 4, 3)) (by decide)
theorem zr_81_108 : zSnd 81 108 (o_const (-1) 109) := zS_iconst (by decide +kernel) rfl (by decide)
theorem zr_81_109 : zSnd 81 109 (o_iret) := zS_iret (by decide +kernel) (by decide +kernel)
theorem zr_81_110 : zSnd 81 110 (o_aload 0 111) := zS_aload_n (i := 0) (by decide +kernel) rfl rfl
theorem zr_81_111 : zSnd 81 111 (o_iload 1 112) := zS_iload_n (i := 1) (by decide +kernel) rfl rfl
theorem zr_81_112 : zSnd 81 112 (o_iload 2 113) := zS_iload_n (i := 2) (by decide +kernel) rfl rfl
theorem zr_81_113 : zSnd 81 113 (o_callv 6 42 3 3 1 116) := zS_callV (n := 2) (idx := 45) (by decide +kernel) rfl rfl (by decide) rfl zq_190 zq_191 zq_192 (by decide +kernel) zMk_42 (by decide +kernel) (by decide +kernel) (by decide +kernel)
theorem zr_81_116 : zSnd 81 116 (o_iret) := zS_iret (by decide +kernel) (by decide +kernel)
theorem zT_81 (pc : Nat) : zSnd 81 pc (zc_81 pc) := by
  unfold zc_81
  exact (zSn_nd (zSn_nd (zSn_nd (zSn_nd (zSn_nd (zSn_lf zr_81_0) (zSn_nd (zSn_lf zr_81_1) (zSn_lf zr_81_2))) (zSn_nd (zSn_nd (zSn_lf zr_81_3) (zSn_lf zr_81_6)) (zSn_nd (zSn_lf zr_81_7) (zSn_lf zr_81_8)))) (zSn_nd (zSn_nd (zSn_lf zr_81_10) (zSn_nd (zSn_lf zr_81_11) (zSn_lf zr_81_13))) (zSn_nd (zSn_nd (zSn_lf zr_81_15) (zSn_lf zr_81_16)) (zSn_nd (zSn_lf zr_81_19) (zSn_lf zr_81_21))))) (zSn_nd (zSn_nd (zSn_nd (zSn_lf zr_81_22) (zSn_nd (zSn_lf zr_81_23) (zSn_lf zr_81_25))) (zSn_nd (zSn_nd (zSn_lf zr_81_26) (zSn_lf zr_81_29)) (zSn_nd (zSn_lf zr_81_30) (zSn_lf zr_81_32)))) (zSn_nd (zSn_nd (zSn_lf zr_81_35) (zSn_nd (zSn_lf zr_81_38) (zSn_lf zr_81_39))) (zSn_nd (zSn_nd (zSn_lf zr_81_64) (zSn_lf zr_81_66)) (zSn_nd (zSn_lf zr_81_67) (zSn_lf zr_81_68)))))) (zSn_nd (zSn_nd (zSn_nd (zSn_nd (zSn_lf zr_81_71) (zSn_nd (zSn_lf zr_81_74) (zSn_lf zr_81_75))) (zSn_nd (zSn_nd (zSn_lf zr_81_78) (zSn_lf zr_81_79)) (zSn_nd (zSn_lf zr_81_80) (zSn_lf zr_81_81)))) (zSn_nd (zSn_nd (zSn_lf zr_81_82) (zSn_nd (zSn_lf zr_81_83) (zSn_lf zr_81_84))) (zSn_nd (zSn_nd (zSn_lf zr_81_87) (zSn_lf zr_81_90)) (zSn_nd (zSn_lf zr_81_91) (zSn_lf zr_81_92))))) (zSn_nd (zSn_nd (zSn_nd (zSn_lf zr_81_93) (zSn_nd (zSn_lf zr_81_96) (zSn_lf zr_81_99))) (zSn_nd (zSn_nd (zSn_lf zr_81_100) (zSn_lf zr_81_101)) (zSn_nd (zSn_lf zr_81_102) (zSn_lf zr_81_105)))) (zSn_nd (zSn_nd (zSn_lf zr_81_108) (zSn_nd (zSn_lf zr_81_109) (zSn_lf zr_81_110))) (zSn_nd (zSn_nd (zSn_lf zr_81_111) (zSn_lf zr_81_112)) (zSn_nd (zSn_lf zr_81_113) (zSn_lf zr_81_116)))))))
theorem zr_82_0 : zSnd 82 0 (o_aload 0 1) := zS_aload_n (i := 0) (by decide +kernel) rfl rfl
theorem zr_82_1 : zSnd 82 1 (o_aload 0 2) := zS_aload_n (i := 0) (by decide +kernel) rfl rfl
theorem zr_82_2 : zSnd 82 2 (o_iload 1 3) := zS_iload_n (i := 1) (by decide +kernel) rfl rfl
theorem zr_82_3 : zSnd 82 3 (o_callv 6 41 2 2 1 6) := zS_callV (n := 1) (idx := 41) (by decide +kernel) rfl rfl (by decide) rfl zq_187 zq_188 zq_189 (by decide +kernel) zMk_41 (by decide +kernel) (by decide +kernel) (by decide +kernel)
theorem zr_82_6 : zSnd 82 6 (o_ifne 13 9) := zS_ifne (by decide +kernel : decode (zmB 82) 6 = .ok (.ifCond .ne 7, 3)) rfl (by decide)
theorem zr_82_9 : zSnd 82 9 (o_const 1 10) := zS_iconst (by decide +kernel) rfl (by decide)
theorem zr_82_10 : zSnd 82 10 (o_goto 27) := zS_goto (by decide +kernel : decode (zmB 82) 10 = .ok (.goto 17, 3)) (by decide)
theorem zr_82_13 : zSnd 82 13 (o_iload 2 14) := zS_iload_n (i := 2) (by decide +kernel) rfl rfl
theorem zr_82_14 : zSnd 82 14 (o_const 0 15) := zS_iconst (by decide +kernel) rfl (by decide)
theorem zr_82_15 : zSnd 82 15 (o_const 5 16) := zS_iconst (by decide +kernel) rfl (by decide)
theorem zr_82_16 : zSnd 82 16 (o_call 38 3 3 1 19) := zS_callS (idx := 33) (by decide +kernel) rfl zq_183 zq_184 (by decide +kernel) zMk_38 (by decide +kernel) (by decide +kernel) (by decide +kernel)
theorem zr_82_19 : zSnd 82 19 (o_ifeq 26 22) := zS_ifeq (by decide +kernel : decode (zmB 82) 19 = .ok (.ifCond .eq 7, 3)) rfl (by decide)
theorem zr_82_22 : zSnd 82 22 (o_const 0 23) := zS_iconst (by decide +kernel) rfl (by decide)
theorem zr_82_23 : zSnd 82 23 (o_goto 27) := zS_goto (by decide +kernel : decode (zmB 82) 23 = .ok (.goto 4, 3)) (by decide)
theorem zr_82_26 : zSnd 82 26 (o_const 2 27) := zS_iconst (by decide +kernel) rfl (by decide)
theorem zr_82_27 : zSnd 82 27 (o_putf 6 0 30) := zS_putf (idx := 22) (by decide +kernel) rfl (by decide) rfl (by decide) rfl zin_6 tyX5_ok nmX5 rfl (by decide +kernel) zq_177
theorem zr_82_30 : zSnd 82 30 (o_aload 0 31) := zS_aload_n (i := 0) (by decide +kernel) rfl rfl
theorem zr_82_31 : zSnd 82 31 (o_getf 6 0 34) := zS_getf (idx := 22) (by decide +kernel) rfl (by decide) rfl (by decide) rfl zin_6 zq_177
theorem zr_82_34 : zSnd 82 34 (o_ifle 41 37) := zS_ifle (by decide +kernel : decode (zmB 82) 34 = .ok (.ifCond .le 7, 3)) rfl (by decide)
theorem zr_82_37 : zSnd 82 37 (o_const 0 38) := zS_iconst (by decide +kernel) rfl (by decide)
theorem zr_82_38 : zSnd 82 38 (o_goto 47) := zS_goto (by decide +kernel : decode (zmB 82) 38 = .ok (.goto 9, 3)) (by decide)
theorem zr_82_41 : zSnd 82 41 (o_aload 0 42) := zS_aload_n (i := 0) (by decide +kernel) rfl rfl
theorem zr_82_42 : zSnd 82 42 (o_iload 1 43) := zS_iload_n (i := 1) (by decide +kernel) rfl rfl
theorem zr_82_43 : zSnd 82 43 (o_iload 2 44) := zS_iload_n (i := 2) (by decide +kernel) rfl rfl
theorem zr_82_44 : zSnd 82 44 (o_callv 6 81 3 6 1 47) := zS_callV (n := 2) (idx := 138) (by decide +kernel) rfl rfl (by decide) rfl zq_275 zq_276 zq_277 (by decide +kernel) zMk_81 (by decide +kernel) (by decide +kernel) (by decide +kernel)
theorem zr_82_47 : zSnd 82 47 (o_iret) := zS_iret (by decide +kernel) (by decide +kernel)
theorem zT_82 (pc : Nat) : zSnd 82 pc (zc_82 pc) := by
  unfold zc_82
  exact (zSn_nd (zSn_nd (zSn_nd (zSn_nd (zSn_lf zr_82_0) (zSn_nd (zSn_lf zr_82_1) (zSn_lf zr_82_2))) (zSn_nd (zSn_lf zr_82_3) (zSn_nd (zSn_lf zr_82_6) (zSn_lf zr_82_9)))) (zSn_nd (zSn_nd (zSn_lf zr_82_10) (zSn_nd (zSn_lf zr_82_13) (zSn_lf zr_82_14))) (zSn_nd (zSn_nd (zSn_lf zr_82_15) (zSn_lf zr_82_16)) (zSn_nd (zSn_lf zr_82_19) (zSn_lf zr_82_22))))) (zSn_nd (zSn_nd (zSn_nd (zSn_lf zr_82_23) (zSn_nd (zSn_lf zr_82_26) (zSn_lf zr_82_27))) (zSn_nd (zSn_lf zr_82_30) (zSn_nd (zSn_lf zr_82_31) (zSn_lf zr_82_34)))) (zSn_nd (zSn_nd (zSn_lf zr_82_37) (zSn_nd (zSn_lf zr_82_38) (zSn_lf zr_82_41))) (zSn_nd (zSn_nd (zSn_lf zr_82_42) (zSn_lf zr_82_43)) (zSn_nd (zSn_lf zr_82_44) (zSn_lf zr_82_47))))))
theorem zr_83_0 : zSnd 83 0 (o_aload 0 1) := zS_aload_n (i := 0) (by decide +kernel) rfl rfl
theorem zr_83_1 : zSnd 83 1 (o_iload 1 2) := zS_iload_n (i := 1) (by decide +kernel) rfl rfl
theorem zr_83_2 : zSnd 83 2 (o_iload 2 3) := zS_iload_n (i := 2) (by decide +kernel) rfl rfl
theorem zr_83_3 : zSnd 83 3 (o_aload 0 4) := zS_aload_n (i := 0) (by decide +kernel) rfl rfl
theorem zr_83_4 : zSnd 83 4 (o_iload 1 5) := zS_iload_n (i := 1) (by decide +kernel) rfl rfl
theorem zr_83_5 : zSnd 83 5 (o_iload 2 6) := zS_iload_n (i := 2) (by decide +kernel) rfl rfl
theorem zr_83_6 : zSnd 83 6 (o_const 3 7) := zS_iconst (by decide +kernel) rfl (by decide)
theorem zr_83_7 : zSnd 83 7 (o_callv 6 44 4 4 1 10) := zS_callV (n := 3) (idx := 73) (by decide +kernel) rfl rfl (by decide) rfl zq_217 zq_218 zq_219 (by decide +kernel) zMk_44 (by decide +kernel) (by decide +kernel) (by decide +kernel)
theorem zr_83_10 : zSnd 83 10 (o_callv 6 58 4 10 1 13) := zS_callV (n := 3) (idx := 79) (by decide +kernel) rfl rfl (by decide) rfl zq_223 zq_224 zq_225 (by decide +kernel) zMk_58 (by decide +kernel) (by decide +kernel) (by decide +kernel)
theorem zr_83_13 : zSnd 83 13 (o_const (-1) 14) := zS_iconst (by decide +kernel) rfl (by decide)
theorem zr_83_14 : zSnd 83 14 (o_cne 21 17) := zS_cne (by decide +kernel : decode (zmB 83) 14 = .ok (.if_icmp .ne 7, 3)) rfl (by decide)
theorem zr_83_17 : zSnd 83 17 (o_const 0 18) := zS_iconst (by decide +kernel) rfl (by decide)
theorem zr_83_18 : zSnd 83 18 (o_goto 22) := zS_goto (by decide +kernel : decode (zmB 83) 18 = .ok (.goto 4, 3)) (by decide)
theorem zr_83_21 : zSnd 83 21 (o_const 1 22) := zS_iconst (by decide +kernel) rfl (by decide)
theorem zr_83_22 : zSnd 83 22 (o_iret) := zS_iret (by decide +kernel) (by decide +kernel)
theorem zT_83 (pc : Nat) : zSnd 83 pc (zc_83 pc) := by
  unfold zc_83
  exact (zSn_nd (zSn_nd (zSn_nd (zSn_lf zr_83_0) (zSn_nd (zSn_lf zr_83_1) (zSn_lf zr_83_2))) (zSn_nd (zSn_nd (zSn_lf zr_83_3) (zSn_lf zr_83_4)) (zSn_nd (zSn_lf zr_83_5) (zSn_lf zr_83_6)))) (zSn_nd (zSn_nd (zSn_nd (zSn_lf zr_83_7) (zSn_lf zr_83_10)) (zSn_nd (zSn_lf zr_83_13) (zSn_lf zr_83_14))) (zSn_nd (zSn_nd (zSn_lf zr_83_17) (zSn_lf zr_83_18)) (zSn_nd (zSn_lf zr_83_21) (zSn_lf zr_83_22)))))
theorem zr_84_0 : zSnd 84 0 (o_iload 3 1) := zS_iload_n (i := 3) (by decide +kernel) rfl rfl
theorem zr_84_1 : zSnd 84 1 (o_const 2 2) := zS_iconst (by decide +kernel) rfl (by decide)
theorem zr_84_2 : zSnd 84 2 (o_clt 14 5) := zS_clt (by decide +kernel : decode (zmB 84) 2 = .ok (.if_icmp .lt 12, 3)) rfl (by decide)
theorem zr_84_5 : zSnd 84 5 (o_aload 0 6) := zS_aload_n (i := 0) (by decide +kernel) rfl rfl
theorem zr_84_6 : zSnd 84 6 (o_callv 6 73 1 1 1 9) := zS_callV (n := 0) (idx := 121) (by decide +kernel) rfl rfl (by decide) rfl zq_261 zq_262 zq_263 (by decide +kernel) zMk_73 (by decide +kernel) (by decide +kernel) (by decide +kernel)
theorem zr_84_9 : zSnd 84 9 (o_ifne 14 12) := zS_ifne (by decide +kernel : decode (zmB 84) 9 = .ok (.ifCond .ne 5, 3)) rfl (by decide)
theorem zr_84_12 : zSnd 84 12 (o_const (-1) 13) := zS_iconst (by decide +kernel) rfl (by decide)
theorem zr_84_13 : zSnd 84 13 (o_iret) := zS_iret (by decide +kernel) (by decide +kernel)
theorem zr_84_14 : zSnd 84 14 (o_iload 3 15) := zS_iload_n (i := 3) (by decide +kernel) rfl rfl
theorem zr_84_15 : zSnd 84 15 (o_const 4 16) := zS_iconst (by decide +kernel) rfl (by decide)
theorem zr_84_16 : zSnd 84 16 (o_cne 28 19) := zS_cne (by decide +kernel : decode (zmB 84) 16 = .ok (.if_icmp .ne 12, 3)) rfl (by decide)
theorem zr_84_19 : zSnd 84 19 (o_aload 0 20) := zS_aload_n (i := 0) (by decide +kernel) rfl rfl
theorem zr_84_20 : zSnd 84 20 (o_iload 1 21) := zS_iload_n (i := 1) (by decide +kernel) rfl rfl
theorem zr_84_21 : zSnd 84 21 (o_iload 2 22) := zS_iload_n (i := 2) (by decide +kernel) rfl rfl
theorem zr_84_22 : zSnd 84 22 (o_callv 6 83 3 3 1 25) := zS_callV (n := 2) (idx := 141) (by decide +kernel) rfl rfl (by decide) rfl zq_278 zq_279 zq_280 (by decide +kernel) zMk_83 (by decide +kernel) (by decide +kernel) (by decide +kernel)
theorem zr_84_25 : zSnd 84 25 (o_goto 35) := zS_goto (by decide +kernel : decode (zmB 84) 25 = .ok (.goto 10, 3)) (by decide)
theorem zr_84_28 : zSnd 84 28 (o_aload 0 29) := zS_aload_n (i := 0) (by decide +kernel) rfl rfl
theorem zr_84_29 : zSnd 84 29 (o_iload 1 30) := zS_iload_n (i := 1) (by decide +kernel) rfl rfl
theorem zr_84_30 : zSnd 84 30 (o_iload 2 31) := zS_iload_n (i := 2) (by decide +kernel) rfl rfl
theorem zr_84_31 : zSnd 84 31 (o_iload 3 32) := zS_iload_n (i := 3) (by decide +kernel) rfl rfl
theorem zr_84_32 : zSnd 84 32 (o_callv 6 44 4 4 1 35) := zS_callV (n := 3) (idx := 73) (by decide +kernel) rfl rfl (by decide) rfl zq_217 zq_218 zq_219 (by decide +kernel) zMk_44 (by decide +kernel) (by decide +kernel) (by decide +kernel)
theorem zr_84_35 : zSnd 84 35 (o_iret) := zS_iret (by decide +kernel) (by decide +kernel)
theorem zT_84 (pc : Nat) : zSnd 84 pc (zc_84 pc) := by
  unfold zc_84
  exact (zSn_nd (zSn_nd (zSn_nd (zSn_nd (zSn_lf zr_84_0) (zSn_lf zr_84_1)) (zSn_nd (zSn_lf zr_84_2) (zSn_nd (zSn_lf zr_84_5) (zSn_lf zr_84_6)))) (zSn_nd (zSn_nd (zSn_lf zr_84_9) (zSn_nd (zSn_lf zr_84_12) (zSn_lf zr_84_13))) (zSn_nd (zSn_lf zr_84_14) (zSn_nd (zSn_lf zr_84_15) (zSn_lf zr_84_16))))) (zSn_nd (zSn_nd (zSn_nd (zSn_lf zr_84_19) (zSn_lf zr_84_20)) (zSn_nd (zSn_lf zr_84_21) (zSn_nd (zSn_lf zr_84_22) (zSn_lf zr_84_25)))) (zSn_nd (zSn_nd (zSn_lf zr_84_28) (zSn_nd (zSn_lf zr_84_29) (zSn_lf zr_84_30))) (zSn_nd (zSn_lf zr_84_31) (zSn_nd (zSn_lf zr_84_32) (zSn_lf zr_84_35))))))
theorem zr_85_0 : zSnd 85 0 (o_aload 0 1) := zS_aload_n (i := 0) (by decide +kernel) rfl rfl
theorem zr_85_1 : zSnd 85 1 (o_aload 0 2) := zS_aload_n (i := 0) (by decide +kernel) rfl rfl
theorem zr_85_2 : zSnd 85 2 (o_iload 1 3) := zS_iload_n (i := 1) (by decide +kernel) rfl rfl
theorem zr_85_3 : zSnd 85 3 (o_iload 2 4) := zS_iload_n (i := 2) (by decide +kernel) rfl rfl
theorem zr_85_4 : zSnd 85 4 (o_callv 6 45 3 3 1 7) := zS_callV (n := 2) (idx := 134) (by decide +kernel) rfl rfl (by decide) rfl zq_272 zq_273 zq_274 (by decide +kernel) zMk_45 (by decide +kernel) (by decide +kernel) (by decide +kernel)
theorem zr_85_7 : zSnd 85 7 (o_ifne 14 10) := zS_ifne (by decide +kernel : decode (zmB 85) 7 = .ok (.ifCond .ne 7, 3)) rfl (by decide)
theorem zr_85_10 : zSnd 85 10 (o_const 1 11) := zS_iconst (by decide +kernel) rfl (by decide)
theorem zr_85_11 : zSnd 85 11 (o_goto 28) := zS_goto (by decide +kernel : decode (zmB 85) 11 = .ok (.goto 17, 3)) (by decide)
theorem zr_85_14 : zSnd 85 14 (o_iload 3 15) := zS_iload_n (i := 3) (by decide +kernel) rfl rfl
theorem zr_85_15 : zSnd 85 15 (o_const 0 16) := zS_iconst (by decide +kernel) rfl (by decide)
theorem zr_85_16 : zSnd 85 16 (o_const 4 17) := zS_iconst (by decide +kernel) rfl (by decide)
theorem zr_85_17 : zSnd 85 17 (o_call 38 3 3 1 20) := zS_callS (idx := 33) (by decide +kernel) rfl zq_183 zq_184 (by decide +kernel) zMk_38 (by decide +kernel) (by decide +kernel) (by decide +kernel)
theorem zr_85_20 : zSnd 85 20 (o_ifeq 27 23) := zS_ifeq (by decide +kernel : decode (zmB 85) 20 = .ok (.ifCond .eq 7, 3)) rfl (by decide)
theorem zr_85_23 : zSnd 85 23 (o_const 0 24) := zS_iconst (by decide +kernel) rfl (by decide)
theorem zr_85_24 : zSnd 85 24 (o_goto 28) := zS_goto (by decide +kernel : decode (zmB 85) 24 = .ok (.goto 4, 3)) (by decide)
theorem zr_85_27 : zSnd 85 27 (o_const 2 28) := zS_iconst (by decide +kernel) rfl (by decide)
theorem zr_85_28 : zSnd 85 28 (o_putf 6 0 31) := zS_putf (idx := 22) (by decide +kernel) rfl (by decide) rfl (by decide) rfl zin_6 tyX5_ok nmX5 rfl (by decide +kernel) zq_177
theorem zr_85_31 : zSnd 85 31 (o_aload 0 32) := zS_aload_n (i := 0) (by decide +kernel) rfl rfl
theorem zr_85_32 : zSnd 85 32 (o_getf 6 0 35) := zS_getf (idx := 22) (by decide +kernel) rfl (by decide) rfl (by decide) rfl zin_6 zq_177
theorem zr_85_35 : zSnd 85 35 (o_ifle 42 38) := zS_ifle (by decide +kernel : decode (zmB 85) 35 = .ok (.ifCond .le 7, 3)) rfl (by decide)
theorem zr_85_38 : zSnd 85 38 (o_const 0 39) := zS_iconst (by decide +kernel) rfl (by decide)
theorem zr_85_39 : zSnd 85 39 (o_goto 49) := zS_goto (by decide +kernel : decode (zmB 85) 39 = .ok (.goto 10, 3)) (by decide)
theorem zr_85_42 : zSnd 85 42 (o_aload 0 43) := zS_aload_n (i := 0) (by decide +kernel) rfl rfl
theorem zr_85_43 : zSnd 85 43 (o_iload 1 44) := zS_iload_n (i := 1) (by decide +kernel) rfl rfl
theorem zr_85_44 : zSnd 85 44 (o_iload 2 45) := zS_iload_n (i := 2) (by decide +kernel) rfl rfl
theorem zr_85_45 : zSnd 85 45 (o_iload 3 46) := zS_iload_n (i := 3) (by decide +kernel) rfl rfl
theorem zr_85_46 : zSnd 85 46 (o_callv 6 84 4 4 1 49) := zS_callV (n := 3) (idx := 144) (by decide +kernel) rfl rfl (by decide) rfl zq_281 zq_282 zq_283 (by decide +kernel) zMk_84 (by decide +kernel) (by decide +kernel) (by decide +kernel)
theorem zr_85_49 : zSnd 85 49 (o_iret) := zS_iret (by decide +kernel) (by decide +kernel)
theorem zT_85 (pc : Nat) : zSnd 85 pc (zc_85 pc) := by
  unfold zc_85
  exact (zSn_nd (zSn_nd (zSn_nd (zSn_nd (zSn_lf zr_85_0) (zSn_nd (zSn_lf zr_85_1) (zSn_lf zr_85_2))) (zSn_nd (zSn_nd (zSn_lf zr_85_3) (zSn_lf zr_85_4)) (zSn_nd (zSn_lf zr_85_7) (zSn_lf zr_85_10)))) (zSn_nd (zSn_nd (zSn_lf zr_85_11) (zSn_nd (zSn_lf zr_85_14) (zSn_lf zr_85_15))) (zSn_nd (zSn_nd (zSn_lf zr_85_16) (zSn_lf zr_85_17)) (zSn_nd (zSn_lf zr_85_20) (zSn_lf zr_85_23))))) (zSn_nd (zSn_nd (zSn_nd (zSn_lf zr_85_24) (zSn_nd (zSn_lf zr_85_27) (zSn_lf zr_85_28))) (zSn_nd (zSn_nd (zSn_lf zr_85_31) (zSn_lf zr_85_32)) (zSn_nd (zSn_lf zr_85_35) (zSn_lf zr_85_38)))) (zSn_nd (zSn_nd (zSn_lf zr_85_39) (zSn_nd (zSn_lf zr_85_42) (zSn_lf zr_85_43))) (zSn_nd (zSn_nd (zSn_lf zr_85_44) (zSn_lf zr_85_45)) (zSn_nd (zSn_lf zr_85_46) (zSn_lf zr_85_49))))))
theorem zr_86_0 : zSnd 86 0 (o_aload 0 1) := zS_aload_n (i := 0) (by decide +kernel) rfl rfl
theorem zr_86_1 : zSnd 86 1 (o_iload 1 2) := zS_iload_n (i := 1) (by decide +kernel) rfl rfl
theorem zr_86_2 : zSnd 86 2 (o_const 0 3) := zS_iconst (by decide +kernel) rfl (by decide)
theorem zr_86_3 : zSnd 86 3 (o_aload 0 4) := zS_aload_n (i := 0) (by decide +kernel) rfl rfl
theorem zr_86_4 : zSnd 86 4 (o_getf 6 1 7) := zS_getf (idx := 7) (by decide +kernel) rfl (by decide) rfl (by decide) rfl zin_6 zq_180
theorem zr_86_7 : zSnd 86 7 (o_const 2 8) := zS_iconst (by decide +kernel) rfl (by decide)
theorem zr_86_8 : zSnd 86 8 (o_iald 9) := zS_iald (by decide +kernel) rfl
theorem zr_86_9 : zSnd 86 9 (o_const 1 10) := zS_iconst (by decide +kernel) rfl (by decide)
theorem zr_86_10 : zSnd 86 10 (o_isub 11) := zS_isub (by decide +kernel) rfl
theorem zr_86_11 : zSnd 86 11 (o_call 38 3 3 1 14) := zS_callS (idx := 33) (by decide +kernel) rfl zq_183 zq_184 (by decide +kernel) zMk_38 (by decide +kernel) (by decide +kernel) (by decide +kernel)
theorem zr_86_14 : zSnd 86 14 (o_ifne 21 17) := zS_ifne (by decide +kernel : decode (zmB 86) 14 = .ok (.ifCond .ne 7, 3)) rfl (by decide)
theorem zr_86_17 : zSnd 86 17 (o_const 1 18) := zS_iconst (by decide +kernel) rfl (by decide)
theorem zr_86_18 : zSnd 86 18 (o_goto 35) := zS_goto (by decide +kernel : decode (zmB 86) 18 = .ok (.goto 17, 3)) (by decide)
theorem zr_86_21 : zSnd 86 21 (o_iload 2 22) := zS_iload_n (i := 2) (by decide +kernel) rfl rfl
theorem zr_86_22 : zSnd 86 22 (o_const 0 23) := zS_iconst (by decide +kernel) rfl (by decide)
theorem zr_86_23 : zSnd 86 23 (o_const 2 24) := zS_iconst (by decide +kernel) rfl (by decide)
theorem zr_86_24 : zSnd 86 24 (o_call 38 3 3 1 27) := zS_callS (idx := 33) (by decide +kernel) rfl zq_183 zq_184 (by decide +kernel) zMk_38 (by decide +kernel) (by decide +kernel) (by decide +kernel)
theorem zr_86_27 : zSnd 86 27 (o_ifeq 34 30) := zS_ifeq (by decide +kernel : decode (zmB 86) 27 = .ok (.ifCond .eq 7, 3)) rfl (by decide)
theorem zr_86_30 : zSnd 86 30 (o_const 0 31) := zS_iconst (by decide +kernel) rfl (by decide)
theorem zr_86_31 : zSnd 86 31 (o_goto 35) := zS_goto (by decide +kernel : decode (zmB 86) 31 = .ok (.goto 4, 3)) (by decide)
theorem zr_86_34 : zSnd 86 34 (o_const 2 35) := zS_iconst (by decide +kernel) rfl (by decide)
theorem zr_86_35 : zSnd 86 35 (o_putf 6 0 38) := zS_putf (idx := 22) (by decide +kernel) rfl (by decide) rfl (by decide) rfl zin_6 tyX5_ok nmX5 rfl (by decide +kernel) zq_177
theorem zr_86_38 : zSnd 86 38 (o_aload 0 39) := zS_aload_n (i := 0) (by decide +kernel) rfl rfl
theorem zr_86_39 : zSnd 86 39 (o_getf 6 0 42) := zS_getf (idx := 22) (by decide +kernel) rfl (by decide) rfl (by decide) rfl zin_6 zq_177
theorem zr_86_42 : zSnd 86 42 (o_ifle 49 45) := zS_ifle (by decide +kernel : decode (zmB 86) 42 = .ok (.ifCond .le 7, 3)) rfl (by decide)
theorem zr_86_45 : zSnd 86 45 (o_const 0 46) := zS_iconst (by decide +kernel) rfl (by decide)
theorem zr_86_46 : zSnd 86 46 (o_goto 55) := zS_goto (by decide +kernel : decode (zmB 86) 46 = .ok (.goto 9, 3)) (by decide)
theorem zr_86_49 : zSnd 86 49 (o_aload 0 50) := zS_aload_n (i := 0) (by decide +kernel) rfl rfl
theorem zr_86_50 : zSnd 86 50 (o_iload 1 51) := zS_iload_n (i := 1) (by decide +kernel) rfl rfl
theorem zr_86_51 : zSnd 86 51 (o_iload 2 52) := zS_iload_n (i := 2) (by decide +kernel) rfl rfl
theorem zr_86_52 : zSnd 86 52 (o_callv 6 46 3 3 1 55) := zS_callV (n := 2) (idx := 76) (by decide +kernel) rfl rfl (by decide) rfl zq_220 zq_221 zq_222 (by decide +kernel) zMk_46 (by decide +kernel) (by decide +kernel) (by decide +kernel)
theorem zr_86_55 : zSnd 86 55 (o_iret) := zS_iret (by decide +kernel) (by decide +kernel)
theorem zT_86 (pc : Nat) : zSnd 86 pc (zc_86 pc) := by
  unfold zc_86
  exact (zSn_nd (zSn_nd (zSn_nd (zSn_nd (zSn_nd (zSn_lf zr_86_0) (zSn_lf zr_86_1)) (zSn_nd (zSn_lf zr_86_2) (zSn_lf zr_86_3))) (zSn_nd (zSn_nd (zSn_lf zr_86_4) (zSn_lf zr_86_7)) (zSn_nd (zSn_lf zr_86_8) (zSn_lf zr_86_9)))) (zSn_nd (zSn_nd (zSn_nd (zSn_lf zr_86_10) (zSn_lf zr_86_11)) (zSn_nd (zSn_lf zr_86_14) (zSn_lf zr_86_17))) (zSn_nd (zSn_nd (zSn_lf zr_86_18) (zSn_lf zr_86_21)) (zSn_nd (zSn_lf zr_86_22) (zSn_lf zr_86_23))))) (zSn_nd (zSn_nd (zSn_nd (zSn_nd (zSn_lf zr_86_24) (zSn_lf zr_86_27)) (zSn_nd (zSn_lf zr_86_30) (zSn_lf zr_86_31))) (zSn_nd (zSn_nd (zSn_lf zr_86_34) (zSn_lf zr_86_35)) (zSn_nd (zSn_lf zr_86_38) (zSn_lf zr_86_39)))) (zSn_nd (zSn_nd (zSn_nd (zSn_lf zr_86_42) (zSn_lf zr_86_45)) (zSn_nd (zSn_lf zr_86_46) (zSn_lf zr_86_49))) (zSn_nd (zSn_nd (zSn_lf zr_86_50) (zSn_lf zr_86_51)) (zSn_nd (zSn_lf zr_86_52) (zSn_lf zr_86_55))))))
theorem zr_87_0 : zSnd 87 0 (o_const 0 1) := zS_iconst (by decide +kernel) rfl (by decide)
theorem zr_87_1 : zSnd 87 1 (o_istore 1 2) := zS_istore_n (i := 1) (by decide +kernel) rfl rfl (by decide +kernel)
theorem zr_87_2 : zSnd 87 2 (o_const 0 3) := zS_iconst (by decide +kernel) rfl (by decide)
theorem zr_87_3 : zSnd 87 3 (o_istore 2 4) := zS_istore_n (i := 2) (by decide +kernel) rfl rfl (by decide +kernel)
theorem zr_87_4 : zSnd 87 4 (o_iload 2 5) := zS_iload_n (i := 2) (by decide +kernel) rfl rfl
theorem zr_87_5 : zSnd 87 5 (o_aload 0 6) := zS_aload_n (i := 0) (by decide +kernel) rfl rfl
theorem zr_87_6 : zSnd 87 6 (o_getf 6 1 9) := zS_getf (idx := 7) (by decide +kernel) rfl (by decide) rfl (by decide) rfl zin_6 zq_180
theorem zr_87_9 : zSnd 87 9 (o_const 1 10) := zS_iconst (by decide +kernel) rfl (by decide)
theorem zr_87_10 : zSnd 87 10 (o_iald 11) := zS_iald (by decide +kernel) rfl
theorem zr_87_11 : zSnd 87 11 (o_cge 61 14) := zS_cge (by decide +kernel : decode (zmB 87) 11 = .ok (.if_icmp .ge 50, 3)) rfl (by decide)
theorem zr_87_14 : zSnd 87 14 (o_const 0 15) := zS_iconst (by decide +kernel) rfl (by decide)
theorem zr_87_15 : zSnd 87 15 (o_istore 3 16) := zS_istore_n (i := 3) (by decide +kernel) rfl rfl (by decide +kernel)
theorem zr_87_16 : zSnd 87 16 (o_iload 3 17) := zS_iload_n (i := 3) (by decide +kernel) rfl rfl
theorem zr_87_17 : zSnd 87 17 (o_aload 0 18) := zS_aload_n (i := 0) (by decide +kernel) rfl rfl
theorem zr_87_18 : zSnd 87 18 (o_iload 2 19) := zS_iload_n (i := 2) (by decide +kernel) rfl rfl
theorem zr_87_19 : zSnd 87 19 (o_const 2 20) := zS_iconst (by decide +kernel) rfl (by decide)
theorem zr_87_20 : zSnd 87 20 (o_callv 6 42 3 3 1 23) := zS_callV (n := 2) (idx := 45) (by decide +kernel) rfl rfl (by decide) rfl zq_190 zq_191 zq_192 (by decide +kernel) zMk_42 (by decide +kernel) (by decide +kernel) (by decide +kernel)
theorem zr_87_23 : zSnd 87 23 (o_cge 55 26) := zS_cge (by decide +kernel : decode (zmB 87) 23 = .ok (.if_icmp .ge 32, 3)) rfl (by decide)
theorem zr_87_26 : zSnd 87 26 (o_aload 0 27) := zS_aload_n (i := 0) (by decide +kernel) rfl rfl
theorem zr_87_27 : zSnd 87 27 (o_iload 2 28) := zS_iload_n (i := 2) (by decide +kernel) rfl rfl
theorem zr_87_28 : zSnd 87 28 (o_iload 3 29) := zS_iload_n (i := 3) (by decide +kernel) rfl rfl
theorem zr_87_29 : zSnd 87 29 (o_const 3 30) := zS_iconst (by decide +kernel) rfl (by decide)
theorem zr_87_30 : zSnd 87 30 (o_callv 6 60 4 4 1 33) := zS_callV (n := 3) (idx := 82) (by decide +kernel) rfl rfl (by decide) rfl zq_226 zq_227 zq_228 (by decide +kernel) zMk_60 (by decide +kernel) (by decide +kernel) (by decide +kernel)
theorem zr_87_33 : zSnd 87 33 (o_iload 1 34) := zS_iload_n (i := 1) (by decide +kernel) rfl rfl
theorem zr_87_34 : zSnd 87 34 (o_cle 47 37) := zS_cle (by decide +kernel : decode (zmB 87) 34 = .ok (.if_icmp .le 13, 3)) rfl (by decide)
theorem zr_87_37 : zSnd 87 37 (o_aload 0 38) := zS_aload_n (i := 0) (by decide +kernel) rfl rfl
theorem zr_87_38 : zSnd 87 38 (o_iload 2 39) := zS_iload_n (i := 2) (by decide +kernel) rfl rfl
theorem zr_87_39 : zSnd 87 39 (o_iload 3 40) := zS_iload_n (i := 3) (by decide +kernel) rfl rfl
theorem zr_87_40 : zSnd 87 40 (o_const 3 41) := zS_iconst (by decide +kernel) rfl (by decide)
theorem zr_87_41 : zSnd 87 41 (o_callv 6 60 4 4 1 44) := zS_callV (n := 3) (idx := 82) (by decide +kernel) rfl rfl (by decide) rfl zq_226 zq_227 zq_228 (by decide +kernel) zMk_60 (by decide +kernel) (by decide +kernel) (by decide +kernel)
theorem zr_87_44 : zSnd 87 44 (o_goto 48) := zS_goto (by decide +kernel : decode (zmB 87) 44 = .ok (.goto 4, 3)) (by decide)
theorem zr_87_47 : zSnd 87 47 (o_iload 1 48) := zS_iload_n (i := 1) (by decide +kernel) rfl rfl
theorem zr_87_48 : zSnd 87 48 (o_istore 1 49) := zS_istore_n (i := 1) (by decide +kernel) rfl rfl (by decide +kernel)
theorem zr_87_49 : zSnd 87 49 (o_iinc 3 1 52) := zS_iinc (by decide +kernel) rfl (by decide +kernel)
theorem zr_87_52 : zSnd 87 52 (o_goto 16) := zS_goto (by decide +kernel : decode (zmB 87) 52 = .ok (.goto (-36), 3)) (by decide)
theorem zr_87_55 : zSnd 87 55 (o_iinc 2 1 58) := zS_iinc (by decide +kernel) rfl (by decide +kernel)
theorem zr_87_58 : zSnd 87 58 (o_goto 4) := zS_goto (by decide +kernel : decode (zmB 87) 58 = .ok (.goto (-54), 3)) (by decide)
theorem zr_87_61 : zSnd 87 61 (o_iload 1 62) := zS_iload_n (i := 1) (by decide +kernel) rfl rfl
theorem zr_87_62 : zSnd 87 62 (o_iret) := zS_iret (by decide +kernel) (by decide +kernel)
theorem zT_87 (pc : Nat) : zSnd 87 pc (zc_87 pc) := by
  unfold zc_87
  exact (zSn_nd (zSn_nd (zSn_nd (zSn_nd (zSn_nd (zSn_lf zr_87_0) (zSn_lf zr_87_1)) (zSn_nd (zSn_lf zr_87_2) (zSn_lf zr_87_3))) (zSn_nd (zSn_nd (zSn_lf zr_87_4) (zSn_lf zr_87_5)) (zSn_nd (zSn_lf zr_87_6) (zSn_nd (zSn_lf zr_87_9) (zSn_lf zr_87_10))))) (zSn_nd (zSn_nd (zSn_nd (zSn_lf zr_87_11) (zSn_lf zr_87_14)) (zSn_nd (zSn_lf zr_87_15) (zSn_nd (zSn_lf zr_87_16) (zSn_lf zr_87_17)))) (zSn_nd (zSn_nd (zSn_lf zr_87_18) (zSn_lf zr_87_19)) (zSn_nd (zSn_lf zr_87_20) (zSn_nd (zSn_lf zr_87_23) (zSn_lf zr_87_26)))))) (zSn_nd (zSn_nd (zSn_nd (zSn_nd (zSn_lf zr_87_27) (zSn_lf zr_87_28)) (zSn_nd (zSn_lf zr_87_29) (zSn_nd (zSn_lf zr_87_30) (zSn_lf zr_87_33)))) (zSn_nd (zSn_nd (zSn_lf zr_87_34) (zSn_lf zr_87_37)) (zSn_nd (zSn_lf zr_87_38) (zSn_nd (zSn_lf zr_87_39) (zSn_lf zr_87_40))))) (zSn_nd (zSn_nd (zSn_nd (zSn_lf zr_87_41) (zSn_lf zr_87_44)) (zSn_nd (zSn_lf zr_87_47) (zSn_nd (zSn_lf zr_87_48) (zSn_lf zr_87_49)))) (zSn_nd (zSn_nd (zSn_lf zr_87_52) (zSn_lf zr_87_55)) (zSn_nd (zSn_lf zr_87_58) (zSn_nd (zSn_lf zr_87_61) (zSn_lf zr_87_62)))))))
