/-! ===== 11: a row for each step (written by a program) ===== -/
theorem zr_108_0 : zSnd 108 0 (o_aload 0 1) := zS_aload_n (i := 0) (by decide +kernel) rfl rfl
theorem zr_108_1 : zSnd 108 1 (o_getf 6 7 4) := zS_getf (idx := 177) (by decide +kernel) rfl (by decide) rfl (by decide) rfl zin_6 zq_313
theorem zr_108_4 : zSnd 108 4 (o_istore 4 6) := zS_istore (by decide +kernel) rfl (by decide +kernel)
theorem zr_108_6 : zSnd 108 6 (o_const 0 7) := zS_iconst (by decide +kernel) rfl (by decide)
theorem zr_108_7 : zSnd 108 7 (o_istore 5 9) := zS_istore (by decide +kernel) rfl (by decide +kernel)
theorem zr_108_9 : zSnd 108 9 (o_aload 0 10) := zS_aload_n (i := 0) (by decide +kernel) rfl rfl
theorem zr_108_10 : zSnd 108 10 (o_getf 6 7 13) := zS_getf (idx := 177) (by decide +kernel) rfl (by decide) rfl (by decide) rfl zin_6 zq_313
theorem zr_108_13 : zSnd 108 13 (o_iload 4 15) := zS_iload (by decide +kernel) rfl
theorem zr_108_15 : zSnd 108 15 (o_isub 16) := zS_isub (by decide +kernel) rfl
theorem zr_108_16 : zSnd 108 16 (o_iload 1 17) := zS_iload_n (i := 1) (by decide +kernel) rfl rfl
theorem zr_108_17 : zSnd 108 17 (o_cge 62 20) := zS_cge (by decide +kernel : decode (zmB 108) 17 = .ok (.if_icmp .ge 45, 3)) rfl (by decide)
theorem zr_108_20 : zSnd 108 20 (o_aload 0 21) := zS_aload_n (i := 0) (by decide +kernel) rfl rfl
theorem zr_108_21 : zSnd 108 21 (o_callv 6 105 1 1 1 24) := zS_callV (n := 0) (idx := 180) (by decide +kernel) rfl rfl (by decide) rfl zq_314 zq_315 zq_316 (by decide +kernel) zMk_105 (by decide +kernel) (by decide +kernel) (by decide +kernel)
theorem zr_108_24 : zSnd 108 24 (o_const 48 26) := zS_bipush (by decide +kernel) rfl (by decide) (by decide)
theorem zr_108_26 : zSnd 108 26 (o_const 57 28) := zS_bipush (by decide +kernel) rfl (by decide) (by decide)
theorem zr_108_28 : zSnd 108 28 (o_call 38 3 3 1 31) := zS_callS (idx := 33) (by decide +kernel) rfl zq_183 zq_184 (by decide +kernel) zMk_38 (by decide +kernel) (by decide +kernel) (by decide +kernel)
theorem zr_108_31 : zSnd 108 31 (o_ifeq 62 34) := zS_ifeq (by decide +kernel : decode (zmB 108) 31 = .ok (.ifCond .eq 31, 3)) rfl (by decide)
theorem zr_108_34 : zSnd 108 34 (o_const 10 36) := zS_bipush (by decide +kernel) rfl (by decide) (by decide)
theorem zr_108_36 : zSnd 108 36 (o_iload 5 38) := zS_iload (by decide +kernel) rfl
theorem zr_108_38 : zSnd 108 38 (o_imul 39) := zS_imul (by decide +kernel) rfl
theorem zr_108_39 : zSnd 108 39 (o_aload 0 40) := zS_aload_n (i := 0) (by decide +kernel) rfl rfl
theorem zr_108_40 : zSnd 108 40 (o_callv 6 105 1 1 1 43) := zS_callV (n := 0) (idx := 180) (by decide +kernel) rfl rfl (by decide) rfl zq_314 zq_315 zq_316 (by decide +kernel) zMk_105 (by decide +kernel) (by decide +kernel) (by decide +kernel)
theorem zr_108_43 : zSnd 108 43 (o_iadd 44) := zS_iadd (by decide +kernel) rfl
theorem zr_108_44 : zSnd 108 44 (o_const 48 46) := zS_bipush (by decide +kernel) rfl (by decide) (by decide)
theorem zr_108_46 : zSnd 108 46 (o_isub 47) := zS_isub (by decide +kernel) rfl
theorem zr_108_47 : zSnd 108 47 (o_istore 5 49) := zS_istore (by decide +kernel) rfl (by decide +kernel)
theorem zr_108_49 : zSnd 108 49 (o_aload 0 50) := zS_aload_n (i := 0) (by decide +kernel) rfl rfl
theorem zr_108_50 : zSnd 108 50 (o_dup 51) := zS_dup (by decide +kernel) rfl
theorem zr_108_51 : zSnd 108 51 (o_getf 6 7 54) := zS_getf (idx := 177) (by decide +kernel) rfl (by decide) rfl (by decide) rfl zin_6 zq_313
theorem zr_108_54 : zSnd 108 54 (o_const 1 55) := zS_iconst (by decide +kernel) rfl (by decide)
theorem zr_108_55 : zSnd 108 55 (o_iadd 56) := zS_iadd (by decide +kernel) rfl
theorem zr_108_56 : zSnd 108 56 (o_putf 6 7 59) := zS_putf (idx := 177) (by decide +kernel) rfl (by decide) rfl (by decide) rfl zin_6 tyX5_ok nmX5 rfl (by decide +kernel) zq_313
theorem zr_108_59 : zSnd 108 59 (o_goto 9) := zS_goto (by decide +kernel : decode (zmB 108) 59 = .ok (.goto (-50), 3)) (by decide)
theorem zr_108_62 : zSnd 108 62 (o_aload 0 63) := zS_aload_n (i := 0) (by decide +kernel) rfl rfl
theorem zr_108_63 : zSnd 108 63 (o_getf 6 7 66) := zS_getf (idx := 177) (by decide +kernel) rfl (by decide) rfl (by decide) rfl zin_6 zq_313
theorem zr_108_66 : zSnd 108 66 (o_iload 4 68) := zS_iload (by decide +kernel) rfl
theorem zr_108_68 : zSnd 108 68 (o_ceq 85 71) := zS_ceq (by decide +kernel : decode (zmB 108) 68 = .ok (.if_icmp .eq 17, 3)) rfl (by decide)
theorem zr_108_71 : zSnd 108 71 (o_aload 0 72) := zS_aload_n (i := 0) (by decide +kernel) rfl rfl
theorem zr_108_72 : zSnd 108 72 (o_callv 6 105 1 1 1 75) := zS_callV (n := 0) (idx := 180) (by decide +kernel) rfl rfl (by decide) rfl zq_314 zq_315 zq_316 (by decide +kernel) zMk_105 (by decide +kernel) (by decide +kernel) (by decide +kernel)
theorem zr_108_75 : zSnd 108 75 (o_const 48 77) := zS_bipush (by decide +kernel) rfl (by decide) (by decide)
theorem zr_108_77 : zSnd 108 77 (o_const 57 79) := zS_bipush (by decide +kernel) rfl (by decide) (by decide)
theorem zr_108_79 : zSnd 108 79 (o_call 38 3 3 1 82) := zS_callS (idx := 33) (by decide +kernel) rfl zq_183 zq_184 (by decide +kernel) zMk_38 (by decide +kernel) (by decide +kernel) (by decide +kernel)
theorem zr_108_82 : zSnd 108 82 (o_ifeq 87 85) := zS_ifeq (by decide +kernel : decode (zmB 108) 82 = .ok (.ifCond .eq 5, 3)) rfl (by decide)
theorem zr_108_85 : zSnd 108 85 (o_const (-1) 86) := zS_iconst (by decide +kernel) rfl (by decide)
theorem zr_108_86 : zSnd 108 86 (o_iret) := zS_iret (by decide +kernel) (by decide +kernel)
theorem zr_108_87 : zSnd 108 87 (o_iload 5 89) := zS_iload (by decide +kernel) rfl
theorem zr_108_89 : zSnd 108 89 (o_iload 2 90) := zS_iload_n (i := 2) (by decide +kernel) rfl rfl
theorem zr_108_90 : zSnd 108 90 (o_iload 3 91) := zS_iload_n (i := 3) (by decide +kernel) rfl rfl
theorem zr_108_91 : zSnd 108 91 (o_call 38 3 3 1 94) := zS_callS (idx := 33) (by decide +kernel) rfl zq_183 zq_184 (by decide +kernel) zMk_38 (by decide +kernel) (by decide +kernel) (by decide +kernel)
theorem zr_108_94 : zSnd 108 94 (o_ifne 105 97) := zS_ifne (by decide +kernel : decode (zmB 108) 94 = .ok (.ifCond .ne 11, 3)) rfl (by decide)
theorem zr_108_97 : zSnd 108 97 (o_aload 0 98) := zS_aload_n (i := 0) (by decide +kernel) rfl rfl
theorem zr_108_98 : zSnd 108 98 (o_iload 4 100) := zS_iload (by decide +kernel) rfl
theorem zr_108_100 : zSnd 108 100 (o_putf 6 7 103) := zS_putf (idx := 177) (by decide +kernel) rfl (by decide) rfl (by decide) rfl zin_6 tyX5_ok nmX5 rfl (by decide +kernel) zq_313
theorem zr_108_103 : zSnd 108 103 (o_const (-1) 104) := zS_iconst (by decide +kernel) rfl (by decide)
theorem zr_108_104 : zSnd 108 104 (o_iret) := zS_iret (by decide +kernel) (by decide +kernel)
theorem zr_108_105 : zSnd 108 105 (o_iload 5 107) := zS_iload (by decide +kernel) rfl
theorem zr_108_107 : zSnd 108 107 (o_iret) := zS_iret (by decide +kernel) (by decide +kernel)
theorem zT_108 (pc : Nat) : zSnd 108 pc (zc_108 pc) := by
  unfold zc_108
  exact (zSn_nd (zSn_nd (zSn_nd (zSn_nd (zSn_nd (zSn_lf zr_108_0) (zSn_nd (zSn_lf zr_108_1) (zSn_lf zr_108_4))) (zSn_nd (zSn_nd (zSn_lf zr_108_6) (zSn_lf zr_108_7)) (zSn_nd (zSn_lf zr_108_9) (zSn_lf zr_108_10)))) (zSn_nd (zSn_nd (zSn_lf zr_108_13) (zSn_nd (zSn_lf zr_108_15) (zSn_lf zr_108_16))) (zSn_nd (zSn_nd (zSn_lf zr_108_17) (zSn_lf zr_108_20)) (zSn_nd (zSn_lf zr_108_21) (zSn_lf zr_108_24))))) (zSn_nd (zSn_nd (zSn_nd (zSn_lf zr_108_26) (zSn_nd (zSn_lf zr_108_28) (zSn_lf zr_108_31))) (zSn_nd (zSn_nd (zSn_lf zr_108_34) (zSn_lf zr_108_36)) (zSn_nd (zSn_lf zr_108_38) (zSn_lf zr_108_39)))) (zSn_nd (zSn_nd (zSn_lf zr_108_40) (zSn_nd (zSn_lf zr_108_43) (zSn_lf zr_108_44))) (zSn_nd (zSn_nd (zSn_lf zr_108_46) (zSn_lf zr_108_47)) (zSn_nd (zSn_lf zr_108_49) (zSn_lf zr_108_50)))))) (zSn_nd (zSn_nd (zSn_nd (zSn_nd (zSn_lf zr_108_51) (zSn_nd (zSn_lf zr_108_54) (zSn_lf zr_108_55))) (zSn_nd (zSn_nd (zSn_lf zr_108_56) (zSn_lf zr_108_59)) (zSn_nd (zSn_lf zr_108_62) (zSn_lf zr_108_63)))) (zSn_nd (zSn_nd (zSn_lf zr_108_66) (zSn_nd (zSn_lf zr_108_68) (zSn_lf zr_108_71))) (zSn_nd (zSn_nd (zSn_lf zr_108_72) (zSn_lf zr_108_75)) (zSn_nd (zSn_lf zr_108_77) (zSn_lf zr_108_79))))) (zSn_nd (zSn_nd (zSn_nd (zSn_lf zr_108_82) (zSn_nd (zSn_lf zr_108_85) (zSn_lf zr_108_86))) (zSn_nd (zSn_nd (zSn_lf zr_108_87) (zSn_lf zr_108_89)) (zSn_nd (zSn_lf zr_108_90) (zSn_lf zr_108_91)))) (zSn_nd (zSn_nd (zSn_nd (zSn_lf zr_108_94) (zSn_lf zr_108_97)) (zSn_nd (zSn_lf zr_108_98) (zSn_lf zr_108_100))) (zSn_nd (zSn_nd (zSn_lf zr_108_103) (zSn_lf zr_108_104)) (zSn_nd (zSn_lf zr_108_105) (zSn_lf zr_108_107)))))))
theorem zr_109_0 : zSnd 109 0 (o_aload 0 1) := zS_aload_n (i := 0) (by decide +kernel) rfl rfl
theorem zr_109_1 : zSnd 109 1 (o_aload 0 2) := zS_aload_n (i := 0) (by decide +kernel) rfl rfl
theorem zr_109_2 : zSnd 109 2 (o_const 1 3) := zS_iconst (by decide +kernel) rfl (by decide)
theorem zr_109_3 : zSnd 109 3 (o_const 9 5) := zS_bipush (by decide +kernel) rfl (by decide) (by decide)
theorem zr_109_5 : zSnd 109 5 (o_callv 6 107 3 5 1 8) := zS_callV (n := 2) (idx := 183) (by decide +kernel) rfl rfl (by decide) rfl zq_317 zq_318 zq_319 (by decide +kernel) zMk_107 (by decide +kernel) (by decide +kernel) (by decide +kernel)
theorem zr_109_8 : zSnd 109 8 (o_putf 6 9 11) := zS_putf (idx := 186) (by decide +kernel) rfl (by decide) rfl (by decide) rfl zin_6 tyX5_ok nmX5 rfl (by decide +kernel) zq_320
theorem zr_109_11 : zSnd 109 11 (o_aload 0 12) := zS_aload_n (i := 0) (by decide +kernel) rfl rfl
theorem zr_109_12 : zSnd 109 12 (o_getf 6 9 15) := zS_getf (idx := 186) (by decide +kernel) rfl (by decide) rfl (by decide) rfl zin_6 zq_320
theorem zr_109_15 : zSnd 109 15 (o_const (-1) 16) := zS_iconst (by decide +kernel) rfl (by decide)
theorem zr_109_16 : zSnd 109 16 (o_ceq 28 19) := zS_ceq (by decide +kernel : decode (zmB 109) 16 = .ok (.if_icmp .eq 12, 3)) rfl (by decide)
theorem zr_109_19 : zSnd 109 19 (o_aload 0 20) := zS_aload_n (i := 0) (by decide +kernel) rfl rfl
theorem zr_109_20 : zSnd 109 20 (o_const 44 22) := zS_bipush (by decide +kernel) rfl (by decide) (by decide)
theorem zr_109_22 : zSnd 109 22 (o_callv 6 106 2 3 1 25) := zS_callV (n := 1) (idx := 189) (by decide +kernel) rfl rfl (by decide) rfl zq_321 zq_322 zq_323 (by decide +kernel) zMk_106 (by decide +kernel) (by decide +kernel) (by decide +kernel)
theorem zr_109_25 : zSnd 109 25 (o_ifne 30 28) := zS_ifne (by decide +kernel : decode (zmB 109) 25 = .ok (.ifCond .ne 5, 3)) rfl (by decide)
theorem zr_109_28 : zSnd 109 28 (o_const 0 29) := zS_iconst (by decide +kernel) rfl (by decide)
theorem zr_109_29 : zSnd 109 29 (o_zret) := zS_zret (by decide +kernel) (by decide +kernel)
theorem zr_109_30 : zSnd 109 30 (o_aload 0 31) := zS_aload_n (i := 0) (by decide +kernel) rfl rfl
theorem zr_109_31 : zSnd 109 31 (o_aload 0 32) := zS_aload_n (i := 0) (by decide +kernel) rfl rfl
theorem zr_109_32 : zSnd 109 32 (o_const 3 33) := zS_iconst (by decide +kernel) rfl (by decide)
theorem zr_109_33 : zSnd 109 33 (o_const 0 34) := zS_iconst (by decide +kernel) rfl (by decide)
theorem zr_109_34 : zSnd 109 34 (o_const 999 37) := zS_sipush (by decide +kernel) rfl (by decide) (by decide)
theorem zr_109_37 : zSnd 109 37 (o_callv 6 108 4 6 1 40) := zS_callV (n := 3) (idx := 192) (by decide +kernel) rfl rfl (by decide) rfl zq_324 zq_325 zq_326 (by decide +kernel) zMk_108 (by decide +kernel) (by decide +kernel) (by decide +kernel)
theorem zr_109_40 : zSnd 109 40 (o_putf 6 10 43) := zS_putf (idx := 195) (by decide +kernel) rfl (by decide) rfl (by decide) rfl zin_6 tyX5_ok nmX5 rfl (by decide +kernel) zq_327
theorem zr_109_43 : zSnd 109 43 (o_aload 0 44) := zS_aload_n (i := 0) (by decide +kernel) rfl rfl
theorem zr_109_44 : zSnd 109 44 (o_getf 6 10 47) := zS_getf (idx := 195) (by decide +kernel) rfl (by decide) rfl (by decide) rfl zin_6 zq_327
theorem zr_109_47 : zSnd 109 47 (o_const (-1) 48) := zS_iconst (by decide +kernel) rfl (by decide)
theorem zr_109_48 : zSnd 109 48 (o_ceq 55 51) := zS_ceq (by decide +kernel : decode (zmB 109) 48 = .ok (.if_icmp .eq 7, 3)) rfl (by decide)
theorem zr_109_51 : zSnd 109 51 (o_const 1 52) := zS_iconst (by decide +kernel) rfl (by decide)
theorem zr_109_52 : zSnd 109 52 (o_goto 56) := zS_goto (by decide +kernel : decode (zmB 109) 52 = .ok (.goto 4, 3)) (by decide)
theorem zr_109_55 : zSnd 109 55 (o_const 0 56) := zS_iconst (by decide +kernel) rfl (by decide)
theorem zr_109_56 : zSnd 109 56 (o_zret) := zS_zret (by decide +kernel) (by decide +kernel)
theorem zT_109 (pc : Nat) : zSnd 109 pc (zc_109 pc) := by
  unfold zc_109
  exact (zSn_nd (zSn_nd (zSn_nd (zSn_nd (zSn_lf zr_109_0) (zSn_nd (zSn_lf zr_109_1) (zSn_lf zr_109_2))) (zSn_nd (zSn_nd (zSn_lf zr_109_3) (zSn_lf zr_109_5)) (zSn_nd (zSn_lf zr_109_8) (zSn_lf zr_109_11)))) (zSn_nd (zSn_nd (zSn_nd (zSn_lf zr_109_12) (zSn_lf zr_109_15)) (zSn_nd (zSn_lf zr_109_16) (zSn_lf zr_109_19))) (zSn_nd (zSn_nd (zSn_lf zr_109_20) (zSn_lf zr_109_22)) (zSn_nd (zSn_lf zr_109_25) (zSn_lf zr_109_28))))) (zSn_nd (zSn_nd (zSn_nd (zSn_nd (zSn_lf zr_109_29) (zSn_lf zr_109_30)) (zSn_nd (zSn_lf zr_109_31) (zSn_lf zr_109_32))) (zSn_nd (zSn_nd (zSn_lf zr_109_33) (zSn_lf zr_109_34)) (zSn_nd (zSn_lf zr_109_37) (zSn_lf zr_109_40)))) (zSn_nd (zSn_nd (zSn_nd (zSn_lf zr_109_43) (zSn_lf zr_109_44)) (zSn_nd (zSn_lf zr_109_47) (zSn_lf zr_109_48))) (zSn_nd (zSn_nd (zSn_lf zr_109_51) (zSn_lf zr_109_52)) (zSn_nd (zSn_lf zr_109_55) (zSn_lf zr_109_56))))))
theorem zr_110_0 : zSnd 110 0 (o_aload 0 1) := zS_aload_n (i := 0) (by decide +kernel) rfl rfl
theorem zr_110_1 : zSnd 110 1 (o_aload 0 2) := zS_aload_n (i := 0) (by decide +kernel) rfl rfl
theorem zr_110_2 : zSnd 110 2 (o_const 0 3) := zS_iconst (by decide +kernel) rfl (by decide)
theorem zr_110_3 : zSnd 110 3 (o_const 5 4) := zS_iconst (by decide +kernel) rfl (by decide)
theorem zr_110_4 : zSnd 110 4 (o_callv 6 107 3 5 1 7) := zS_callV (n := 2) (idx := 183) (by decide +kernel) rfl rfl (by decide) rfl zq_317 zq_318 zq_319 (by decide +kernel) zMk_107 (by decide +kernel) (by decide +kernel) (by decide +kernel)
theorem zr_110_7 : zSnd 110 7 (o_putf 6 9 10) := zS_putf (idx := 186) (by decide +kernel) rfl (by decide) rfl (by decide) rfl zin_6 tyX5_ok nmX5 rfl (by decide +kernel) zq_320
theorem zr_110_10 : zSnd 110 10 (o_aload 0 11) := zS_aload_n (i := 0) (by decide +kernel) rfl rfl
theorem zr_110_11 : zSnd 110 11 (o_getf 6 9 14) := zS_getf (idx := 186) (by decide +kernel) rfl (by decide) rfl (by decide) rfl zin_6 zq_320
theorem zr_110_14 : zSnd 110 14 (o_const (-1) 15) := zS_iconst (by decide +kernel) rfl (by decide)
theorem zr_110_15 : zSnd 110 15 (o_cne 20 18) := zS_cne (by decide +kernel : decode (zmB 110) 15 = .ok (.if_icmp .ne 5, 3)) rfl (by decide)
theorem zr_110_18 : zSnd 110 18 (o_const 0 19) := zS_iconst (by decide +kernel) rfl (by decide)
theorem zr_110_19 : zSnd 110 19 (o_zret) := zS_zret (by decide +kernel) (by decide +kernel)
theorem zr_110_20 : zSnd 110 20 (o_aload 0 21) := zS_aload_n (i := 0) (by decide +kernel) rfl rfl
theorem zr_110_21 : zSnd 110 21 (o_aload 0 22) := zS_aload_n (i := 0) (by decide +kernel) rfl rfl
theorem zr_110_22 : zSnd 110 22 (o_const 0 23) := zS_iconst (by decide +kernel) rfl (by decide)
theorem zr_110_23 : zSnd 110 23 (o_const 4 24) := zS_iconst (by decide +kernel) rfl (by decide)
theorem zr_110_24 : zSnd 110 24 (o_callv 6 107 3 5 1 27) := zS_callV (n := 2) (idx := 183) (by decide +kernel) rfl rfl (by decide) rfl zq_317 zq_318 zq_319 (by decide +kernel) zMk_107 (by decide +kernel) (by decide +kernel) (by decide +kernel)
theorem zr_110_27 : zSnd 110 27 (o_putf 6 10 30) := zS_putf (idx := 195) (by decide +kernel) rfl (by decide) rfl (by decide) rfl zin_6 tyX5_ok nmX5 rfl (by decide +kernel) zq_327
theorem zr_110_30 : zSnd 110 30 (o_aload 0 31) := zS_aload_n (i := 0) (by decide +kernel) rfl rfl
theorem zr_110_31 : zSnd 110 31 (o_getf 6 10 34) := zS_getf (idx := 195) (by decide +kernel) rfl (by decide) rfl (by decide) rfl zin_6 zq_327
theorem zr_110_34 : zSnd 110 34 (o_const (-1) 35) := zS_iconst (by decide +kernel) rfl (by decide)
theorem zr_110_35 : zSnd 110 35 (o_ceq 47 38) := zS_ceq (by decide +kernel : decode (zmB 110) 35 = .ok (.if_icmp .eq 12, 3)) rfl (by decide)
theorem zr_110_38 : zSnd 110 38 (o_aload 0 39) := zS_aload_n (i := 0) (by decide +kernel) rfl rfl
theorem zr_110_39 : zSnd 110 39 (o_const 44 41) := zS_bipush (by decide +kernel) rfl (by decide) (by decide)
theorem zr_110_41 : zSnd 110 41 (o_callv 6 106 2 3 1 44) := zS_callV (n := 1) (idx := 189) (by decide +kernel) rfl rfl (by decide) rfl zq_321 zq_322 zq_323 (by decide +kernel) zMk_106 (by decide +kernel) (by decide +kernel) (by decide +kernel)
theorem zr_110_44 : zSnd 110 44 (o_ifne 49 47) := zS_ifne (by decide +kernel : decode (zmB 110) 44 = .ok (.ifCond .ne 5, 3)) rfl (by decide)
theorem zr_110_47 : zSnd 110 47 (o_const 0 48) := zS_iconst (by decide +kernel) rfl (by decide)
theorem zr_110_48 : zSnd 110 48 (o_zret) := zS_zret (by decide +kernel) (by decide +kernel)
theorem zr_110_49 : zSnd 110 49 (o_aload 0 50) := zS_aload_n (i := 0) (by decide +kernel) rfl rfl
theorem zr_110_50 : zSnd 110 50 (o_aload 0 51) := zS_aload_n (i := 0) (by decide +kernel) rfl rfl
theorem zr_110_51 : zSnd 110 51 (o_const 2 52) := zS_iconst (by decide +kernel) rfl (by decide)
theorem zr_110_52 : zSnd 110 52 (o_const 1 53) := zS_iconst (by decide +kernel) rfl (by decide)
theorem zr_110_53 : zSnd 110 53 (o_const 20 55) := zS_bipush (by decide +kernel) rfl (by decide) (by decide)
theorem zr_110_55 : zSnd 110 55 (o_callv 6 108 4 6 1 58) := zS_callV (n := 3) (idx := 192) (by decide +kernel) rfl rfl (by decide) rfl zq_324 zq_325 zq_326 (by decide +kernel) zMk_108 (by decide +kernel) (by decide +kernel) (by decide +kernel)
theorem zr_110_58 : zSnd 110 58 (o_putf 6 11 61) := zS_putf (idx := 198) (by decide +kernel) rfl (by decide) rfl (by decide) rfl zin_6 tyX5_ok nmX5 rfl (by decide +kernel) zq_328
theorem zr_110_61 : zSnd 110 61 (o_aload 0 62) := zS_aload_n (i := 0) (by decide +kernel) rfl rfl
theorem zr_110_62 : zSnd 110 62 (o_getf 6 11 65) := zS_getf (idx := 198) (by decide +kernel) rfl (by decide) rfl (by decide) rfl zin_6 zq_328
theorem zr_110_65 : zSnd 110 65 (o_const (-1) 66) := zS_iconst (by decide +kernel) rfl (by decide)
theorem zr_110_66 : zSnd 110 66 (o_ceq 73 69) := zS_ceq (by decide +kernel : decode (zmB 110) 66 = .ok (.if_icmp .eq 7, 3)) rfl (by decide)
theorem zr_110_69 : zSnd 110 69 (o_const 1 70) := zS_iconst (by decide +kernel) rfl (by decide)
theorem zr_110_70 : zSnd 110 70 (o_goto 74) := zS_goto (by decide +kernel : decode (zmB 110) 70 = .ok (.goto 4, 3)) (by decide)
theorem zr_110_73 : zSnd 110 73 (o_const 0 74) := zS_iconst (by decide +kernel) rfl (by decide)
theorem zr_110_74 : zSnd 110 74 (o_zret) := zS_zret (by decide +kernel) (by decide +kernel)
theorem zT_110 (pc : Nat) : zSnd 110 pc (zc_110 pc) := by
  unfold zc_110
  exact (zSn_nd (zSn_nd (zSn_nd (zSn_nd (zSn_nd (zSn_lf zr_110_0) (zSn_lf zr_110_1)) (zSn_nd (zSn_lf zr_110_2) (zSn_nd (zSn_lf zr_110_3) (zSn_lf zr_110_4)))) (zSn_nd (zSn_nd (zSn_lf zr_110_7) (zSn_lf zr_110_10)) (zSn_nd (zSn_lf zr_110_11) (zSn_nd (zSn_lf zr_110_14) (zSn_lf zr_110_15))))) (zSn_nd (zSn_nd (zSn_nd (zSn_lf zr_110_18) (zSn_lf zr_110_19)) (zSn_nd (zSn_lf zr_110_20) (zSn_nd (zSn_lf zr_110_21) (zSn_lf zr_110_22)))) (zSn_nd (zSn_nd (zSn_lf zr_110_23) (zSn_nd (zSn_lf zr_110_24) (zSn_lf zr_110_27))) (zSn_nd (zSn_lf zr_110_30) (zSn_nd (zSn_lf zr_110_31) (zSn_lf zr_110_34)))))) (zSn_nd (zSn_nd (zSn_nd (zSn_nd (zSn_lf zr_110_35) (zSn_lf zr_110_38)) (zSn_nd (zSn_lf zr_110_39) (zSn_nd (zSn_lf zr_110_41) (zSn_lf zr_110_44)))) (zSn_nd (zSn_nd (zSn_lf zr_110_47) (zSn_nd (zSn_lf zr_110_48) (zSn_lf zr_110_49))) (zSn_nd (zSn_lf zr_110_50) (zSn_nd (zSn_lf zr_110_51) (zSn_lf zr_110_52))))) (zSn_nd (zSn_nd (zSn_nd (zSn_lf zr_110_53) (zSn_lf zr_110_55)) (zSn_nd (zSn_lf zr_110_58) (zSn_nd (zSn_lf zr_110_61) (zSn_lf zr_110_62)))) (zSn_nd (zSn_nd (zSn_lf zr_110_65) (zSn_nd (zSn_lf zr_110_66) (zSn_lf zr_110_69))) (zSn_nd (zSn_lf zr_110_70) (zSn_nd (zSn_lf zr_110_73) (zSn_lf zr_110_74)))))))
theorem zr_111_0 : zSnd 111 0 (o_aload 0 1) := zS_aload_n (i := 0) (by decide +kernel) rfl rfl
theorem zr_111_1 : zSnd 111 1 (o_aload 0 2) := zS_aload_n (i := 0) (by decide +kernel) rfl rfl
theorem zr_111_2 : zSnd 111 2 (o_const 0 3) := zS_iconst (by decide +kernel) rfl (by decide)
theorem zr_111_3 : zSnd 111 3 (o_const 4 4) := zS_iconst (by decide +kernel) rfl (by decide)
theorem zr_111_4 : zSnd 111 4 (o_callv 6 107 3 5 1 7) := zS_callV (n := 2) (idx := 183) (by decide +kernel) rfl rfl (by decide) rfl zq_317 zq_318 zq_319 (by decide +kernel) zMk_107 (by decide +kernel) (by decide +kernel) (by decide +kernel)
theorem zr_111_7 : zSnd 111 7 (o_putf 6 9 10) := zS_putf (idx := 186) (by decide +kernel) rfl (by decide) rfl (by decide) rfl zin_6 tyX5_ok nmX5 rfl (by decide +kernel) zq_320
theorem zr_111_10 : zSnd 111 10 (o_aload 0 11) := zS_aload_n (i := 0) (by decide +kernel) rfl rfl
theorem zr_111_11 : zSnd 111 11 (o_getf 6 9 14) := zS_getf (idx := 186) (by decide +kernel) rfl (by decide) rfl (by decide) rfl zin_6 zq_320
theorem zr_111_14 : zSnd 111 14 (o_const (-1) 15) := zS_iconst (by decide +kernel) rfl (by decide)
theorem zr_111_15 : zSnd 111 15 (o_ceq 27 18) := zS_ceq (by decide +kernel : decode (zmB 111) 15 = .ok (.if_icmp .eq 12, 3)) rfl (by decide)
theorem zr_111_18 : zSnd 111 18 (o_aload 0 19) := zS_aload_n (i := 0) (by decide +kernel) rfl rfl
theorem zr_111_19 : zSnd 111 19 (o_const 44 21) := zS_bipush (by decide +kernel) rfl (by decide) (by decide)
theorem zr_111_21 : zSnd 111 21 (o_callv 6 106 2 3 1 24) := zS_callV (n := 1) (idx := 189) (by decide +kernel) rfl rfl (by decide) rfl zq_321 zq_322 zq_323 (by decide +kernel) zMk_106 (by decide +kernel) (by decide +kernel) (by decide +kernel)
theorem zr_111_24 : zSnd 111 24 (o_ifne 29 27) := zS_ifne (by decide +kernel : decode (zmB 111) 24 = .ok (.ifCond .ne 5, 3)) rfl (by decide)
theorem zr_111_27 : zSnd 111 27 (o_const 0 28) := zS_iconst (by decide +kernel) rfl (by decide)
theorem zr_111_28 : zSnd 111 28 (o_zret) := zS_zret (by decide +kernel) (by decide +kernel)
theorem zr_111_29 : zSnd 111 29 (o_aload 0 30) := zS_aload_n (i := 0) (by decide +kernel) rfl rfl
theorem zr_111_30 : zSnd 111 30 (o_aload 0 31) := zS_aload_n (i := 0) (by decide +kernel) rfl rfl
theorem zr_111_31 : zSnd 111 31 (o_const 3 32) := zS_iconst (by decide +kernel) rfl (by decide)
theorem zr_111_32 : zSnd 111 32 (o_const 0 33) := zS_iconst (by decide +kernel) rfl (by decide)
theorem zr_111_33 : zSnd 111 33 (o_const 500 36) := zS_sipush (by decide +kernel) rfl (by decide) (by decide)
theorem zr_111_36 : zSnd 111 36 (o_callv 6 108 4 6 1 39) := zS_callV (n := 3) (idx := 192) (by decide +kernel) rfl rfl (by decide) rfl zq_324 zq_325 zq_326 (by decide +kernel) zMk_108 (by decide +kernel) (by decide +kernel) (by decide +kernel)
theorem zr_111_39 : zSnd 111 39 (o_putf 6 10 42) := zS_putf (idx := 195) (by decide +kernel) rfl (by decide) rfl (by decide) rfl zin_6 tyX5_ok nmX5 rfl (by decide +kernel) zq_327
theorem zr_111_42 : zSnd 111 42 (o_aload 0 43) := zS_aload_n (i := 0) (by decide +kernel) rfl rfl
theorem zr_111_43 : zSnd 111 43 (o_getf 6 10 46) := zS_getf (idx := 195) (by decide +kernel) rfl (by decide) rfl (by decide) rfl zin_6 zq_327
theorem zr_111_46 : zSnd 111 46 (o_const (-1) 47) := zS_iconst (by decide +kernel) rfl (by decide)
theorem zr_111_47 : zSnd 111 47 (o_ceq 59 50) := zS_ceq (by decide +kernel : decode (zmB 111) 47 = .ok (.if_icmp .eq 12, 3)) rfl (by decide)
theorem zr_111_50 : zSnd 111 50 (o_aload 0 51) := zS_aload_n (i := 0) (by decide +kernel) rfl rfl
theorem zr_111_51 : zSnd 111 51 (o_const 44 53) := zS_bipush (by decide +kernel) rfl (by decide) (by decide)
theorem zr_111_53 : zSnd 111 53 (o_callv 6 106 2 3 1 56) := zS_callV (n := 1) (idx := 189) (by decide +kernel) rfl rfl (by decide) rfl zq_321 zq_322 zq_323 (by decide +kernel) zMk_106 (by decide +kernel) (by decide +kernel) (by decide +kernel)
theorem zr_111_56 : zSnd 111 56 (o_ifne 61 59) := zS_ifne (by decide +kernel : decode (zmB 111) 56 = .ok (.ifCond .ne 5, 3)) rfl (by decide)
theorem zr_111_59 : zSnd 111 59 (o_const 0 60) := zS_iconst (by decide +kernel) rfl (by decide)
theorem zr_111_60 : zSnd 111 60 (o_zret) := zS_zret (by decide +kernel) (by decide +kernel)
theorem zr_111_61 : zSnd 111 61 (o_aload 0 62) := zS_aload_n (i := 0) (by decide +kernel) rfl rfl
theorem zr_111_62 : zSnd 111 62 (o_aload 0 63) := zS_aload_n (i := 0) (by decide +kernel) rfl rfl
theorem zr_111_63 : zSnd 111 63 (o_const 2 64) := zS_iconst (by decide +kernel) rfl (by decide)
theorem zr_111_64 : zSnd 111 64 (o_const 1 65) := zS_iconst (by decide +kernel) rfl (by decide)
theorem zr_111_65 : zSnd 111 65 (o_const 50 67) := zS_bipush (by decide +kernel) rfl (by decide) (by decide)
theorem zr_111_67 : zSnd 111 67 (o_callv 6 108 4 6 1 70) := zS_callV (n := 3) (idx := 192) (by decide +kernel) rfl rfl (by decide) rfl zq_324 zq_325 zq_326 (by decide +kernel) zMk_108 (by decide +kernel) (by decide +kernel) (by decide +kernel)
theorem zr_111_70 : zSnd 111 70 (o_putf 6 11 73) := zS_putf (idx := 198) (by decide +kernel) rfl (by decide) rfl (by decide) rfl zin_6 tyX5_ok nmX5 rfl (by decide +kernel) zq_328
theorem zr_111_73 : zSnd 111 73 (o_aload 0 74) := zS_aload_n (i := 0) (by decide +kernel) rfl rfl
theorem zr_111_74 : zSnd 111 74 (o_getf 6 11 77) := zS_getf (idx := 198) (by decide +kernel) rfl (by decide) rfl (by decide) rfl zin_6 zq_328
theorem zr_111_77 : zSnd 111 77 (o_const (-1) 78) := zS_iconst (by decide +kernel) rfl (by decide)
theorem zr_111_78 : zSnd 111 78 (o_ceq 85 81) := zS_ceq (by decide +kernel : decode (zmB 111) 78 = .ok (.if_icmp .eq 7, 3)) rfl (by decide)
theorem zr_111_81 : zSnd 111 81 (o_const 1 82) := zS_iconst (by decide +kernel) rfl (by decide)
theorem zr_111_82 : zSnd 111 82 (o_goto 86) := zS_goto (by decide +kernel : decode (zmB 111) 82 = .ok (.goto 4, 3)) (by decide)
theorem zr_111_85 : zSnd 111 85 (o_const 0 86) := zS_iconst (by decide +kernel) rfl (by decide)
theorem zr_111_86 : zSnd 111 86 (o_zret) := zS_zret (by decide +kernel) (by decide +kernel)
theorem zT_111 (pc : Nat) : zSnd 111 pc (zc_111 pc) := by
  unfold zc_111
  exact (zSn_nd (zSn_nd (zSn_nd (zSn_nd (zSn_nd (zSn_lf zr_111_0) (zSn_nd (zSn_lf zr_111_1) (zSn_lf zr_111_2))) (zSn_nd (zSn_lf zr_111_3) (zSn_nd (zSn_lf zr_111_4) (zSn_lf zr_111_7)))) (zSn_nd (zSn_nd (zSn_lf zr_111_10) (zSn_nd (zSn_lf zr_111_11) (zSn_lf zr_111_14))) (zSn_nd (zSn_lf zr_111_15) (zSn_nd (zSn_lf zr_111_18) (zSn_lf zr_111_19))))) (zSn_nd (zSn_nd (zSn_nd (zSn_lf zr_111_21) (zSn_nd (zSn_lf zr_111_24) (zSn_lf zr_111_27))) (zSn_nd (zSn_lf zr_111_28) (zSn_nd (zSn_lf zr_111_29) (zSn_lf zr_111_30)))) (zSn_nd (zSn_nd (zSn_lf zr_111_31) (zSn_nd (zSn_lf zr_111_32) (zSn_lf zr_111_33))) (zSn_nd (zSn_lf zr_111_36) (zSn_nd (zSn_lf zr_111_39) (zSn_lf zr_111_42)))))) (zSn_nd (zSn_nd (zSn_nd (zSn_nd (zSn_lf zr_111_43) (zSn_nd (zSn_lf zr_111_46) (zSn_lf zr_111_47))) (zSn_nd (zSn_lf zr_111_50) (zSn_nd (zSn_lf zr_111_51) (zSn_lf zr_111_53)))) (zSn_nd (zSn_nd (zSn_lf zr_111_56) (zSn_nd (zSn_lf zr_111_59) (zSn_lf zr_111_60))) (zSn_nd (zSn_lf zr_111_61) (zSn_nd (zSn_lf zr_111_62) (zSn_lf zr_111_63))))) (zSn_nd (zSn_nd (zSn_nd (zSn_lf zr_111_64) (zSn_nd (zSn_lf zr_111_65) (zSn_lf zr_111_67))) (zSn_nd (zSn_lf zr_111_70) (zSn_nd (zSn_lf zr_111_73) (zSn_lf zr_111_74)))) (zSn_nd (zSn_nd (zSn_lf zr_111_77) (zSn_nd (zSn_lf zr_111_78) (zSn_lf zr_111_81))) (zSn_nd (zSn_lf zr_111_82) (zSn_nd (zSn_lf zr_111_85) (zSn_lf zr_111_86)))))))
theorem zr_112_0 : zSnd 112 0 (o_aload 0 1) := zS_aload_n (i := 0) (by decide +kernel) rfl rfl
theorem zr_112_1 : zSnd 112 1 (o_aload 0 2) := zS_aload_n (i := 0) (by decide +kernel) rfl rfl
theorem zr_112_2 : zSnd 112 2 (o_callv 6 105 1 1 1 5) := zS_callV (n := 0) (idx := 180) (by decide +kernel) rfl rfl (by decide) rfl zq_314 zq_315 zq_316 (by decide +kernel) zMk_105 (by decide +kernel) (by decide +kernel) (by decide +kernel)
theorem zr_112_5 : zSnd 112 5 (o_putf 6 8 8) := zS_putf (idx := 201) (by decide +kernel) rfl (by decide) rfl (by decide) rfl zin_6 tyX5_ok nmX5 rfl (by decide +kernel) zq_329
theorem zr_112_8 : zSnd 112 8 (o_aload 0 9) := zS_aload_n (i := 0) (by decide +kernel) rfl rfl
theorem zr_112_9 : zSnd 112 9 (o_getf 6 8 12) := zS_getf (idx := 201) (by decide +kernel) rfl (by decide) rfl (by decide) rfl zin_6 zq_329
theorem zr_112_12 : zSnd 112 12 (o_const 106 14) := zS_bipush (by decide +kernel) rfl (by decide) (by decide)
theorem zr_112_14 : zSnd 112 14 (o_ceq 44 17) := zS_ceq (by decide +kernel : decode (zmB 112) 14 = .ok (.if_icmp .eq 30, 3)) rfl (by decide)
theorem zr_112_17 : zSnd 112 17 (o_aload 0 18) := zS_aload_n (i := 0) (by decide +kernel) rfl rfl
theorem zr_112_18 : zSnd 112 18 (o_getf 6 8 21) := zS_getf (idx := 201) (by decide +kernel) rfl (by decide) rfl (by decide) rfl zin_6 zq_329
theorem zr_112_21 : zSnd 112 21 (o_const 111 23) := zS_bipush (by decide +kernel) rfl (by decide) (by decide)
theorem zr_112_23 : zSnd 112 23 (o_ceq 44 26) := zS_ceq (by decide +kernel : decode (zmB 112) 23 = .ok (.if_icmp .eq 21, 3)) rfl (by decide)
theorem zr_112_26 : zSnd 112 26 (o_aload 0 27) := zS_aload_n (i := 0) (by decide +kernel) rfl rfl
theorem zr_112_27 : zSnd 112 27 (o_getf 6 8 30) := zS_getf (idx := 201) (by decide +kernel) rfl (by decide) rfl (by decide) rfl zin_6 zq_329
theorem zr_112_30 : zSnd 112 30 (o_const 100 32) := zS_bipush (by decide +kernel) rfl (by decide) (by decide)
theorem zr_112_32 : zSnd 112 32 (o_ceq 44 35) := zS_ceq (by decide +kernel : decode (zmB 112) 32 = .ok (.if_icmp .eq 12, 3)) rfl (by decide)
theorem zr_112_35 : zSnd 112 35 (o_aload 0 36) := zS_aload_n (i := 0) (by decide +kernel) rfl rfl
theorem zr_112_36 : zSnd 112 36 (o_getf 6 8 39) := zS_getf (idx := 201) (by decide +kernel) rfl (by decide) rfl (by decide) rfl zin_6 zq_329
theorem zr_112_39 : zSnd 112 39 (o_const 112 41) := zS_bipush (by decide +kernel) rfl (by decide) (by decide)
theorem zr_112_41 : zSnd 112 41 (o_cne 48 44) := zS_cne (by decide +kernel : decode (zmB 112) 41 = .ok (.if_icmp .ne 7, 3)) rfl (by decide)
theorem zr_112_44 : zSnd 112 44 (o_const 1 45) := zS_iconst (by decide +kernel) rfl (by decide)
theorem zr_112_45 : zSnd 112 45 (o_goto 49) := zS_goto (by decide +kernel : decode (zmB 112) 45 = .ok (.goto 4, 3)) (by decide)
theorem zr_112_48 : zSnd 112 48 (o_const 0 49) := zS_iconst (by decide +kernel) rfl (by decide)
theorem zr_112_49 : zSnd 112 49 (o_istore 1 50) := zS_istore_n (i := 1) (by decide +kernel) rfl rfl (by decide +kernel)
theorem zr_112_50 : zSnd 112 50 (o_aload 0 51) := zS_aload_n (i := 0) (by decide +kernel) rfl rfl
theorem zr_112_51 : zSnd 112 51 (o_dup 52) := zS_dup (by decide +kernel) rfl
theorem zr_112_52 : zSnd 112 52 (o_getf 6 7 55) := zS_getf (idx := 177) (by decide +kernel) rfl (by decide) rfl (by decide) rfl zin_6 zq_313
theorem zr_112_55 : zSnd 112 55 (o_iload 1 56) := zS_iload_n (i := 1) (by decide +kernel) rfl rfl
theorem zr_112_56 : zSnd 112 56 (o_ifeq 63 59) := zS_ifeq (by decide +kernel : decode (zmB 112) 56 = .ok (.ifCond .eq 7, 3)) rfl (by decide)
theorem zr_112_59 : zSnd 112 59 (o_const 1 60) := zS_iconst (by decide +kernel) rfl (by decide)
theorem zr_112_60 : zSnd 112 60 (o_goto 64) := zS_goto (by decide +kernel : decode (zmB 112) 60 = .ok (.goto 4, 3)) (by decide)
theorem zr_112_63 : zSnd 112 63 (o_const 0 64) := zS_iconst (by decide +kernel) rfl (by decide)
theorem zr_112_64 : zSnd 112 64 (o_iadd 65) := zS_iadd (by decide +kernel) rfl
theorem zr_112_65 : zSnd 112 65 (o_putf 6 7 68) := zS_putf (idx := 177) (by decide +kernel) rfl (by decide) rfl (by decide) rfl zin_6 tyX5_ok nmX5 rfl (by decide +kernel) zq_313
theorem zr_112_68 : zSnd 112 68 (o_aload 0 69) := zS_aload_n (i := 0) (by decide +kernel) rfl rfl
theorem zr_112_69 : zSnd 112 69 (o_getf 6 8 72) := zS_getf (idx := 201) (by decide +kernel) rfl (by decide) rfl (by decide) rfl zin_6 zq_329
theorem zr_112_72 : zSnd 112 72 (o_const 106 74) := zS_bipush (by decide +kernel) rfl (by decide) (by decide)
theorem zr_112_74 : zSnd 112 74 (o_cne 85 77) := zS_cne (by decide +kernel : decode (zmB 112) 74 = .ok (.if_icmp .ne 11, 3)) rfl (by decide)
theorem zr_112_77 : zSnd 112 77 (o_aload 0 78) := zS_aload_n (i := 0) (by decide +kernel) rfl rfl
theorem zr_112_78 : zSnd 112 78 (o_callv 6 109 1 1 1 81) := zS_callV (n := 0) (idx := 204) (by decide +kernel) rfl rfl (by decide) rfl zq_330 zq_331 zq_332 (by decide +kernel) zMk_109 (by decide +kernel) (by decide +kernel) (by decide +kernel)
theorem zr_112_81 : zSnd 112 81 (o_istore 1 82) := zS_istore_n (i := 1) (by decide +kernel) rfl rfl (by decide +kernel)
theorem zr_112_82 : zSnd 112 82 (o_goto 152) := zS_goto (by decide +kernel : decode (zmB 112) 82 = .ok (.goto 70, 3)) (by decide)
theorem zr_112_85 : zSnd 112 85 (o_aload 0 86) := zS_aload_n (i := 0) (by decide +kernel) rfl rfl
theorem zr_112_86 : zSnd 112 86 (o_getf 6 8 89) := zS_getf (idx := 201) (by decide +kernel) rfl (by decide) rfl (by decide) rfl zin_6 zq_329
theorem zr_112_89 : zSnd 112 89 (o_const 111 91) := zS_bipush (by decide +kernel) rfl (by decide) (by decide)
theorem zr_112_91 : zSnd 112 91 (o_cne 102 94) := zS_cne (by decide +kernel : decode (zmB 112) 91 = .ok (.if_icmp .ne 11, 3)) rfl (by decide)
theorem zr_112_94 : zSnd 112 94 (o_aload 0 95) := zS_aload_n (i := 0) (by decide +kernel) rfl rfl
theorem zr_112_95 : zSnd 112 95 (o_callv 6 110 1 1 1 98) := zS_callV (n := 0) (idx := 207) (by decide +kernel) rfl rfl (by decide) rfl zq_333 zq_334 zq_335 (by decide +kernel) zMk_110 (by decide +kernel) (by decide +kernel) (by decide +kernel)
theorem zr_112_98 : zSnd 112 98 (o_istore 1 99) := zS_istore_n (i := 1) (by decide +kernel) rfl rfl (by decide +kernel)
theorem zr_112_99 : zSnd 112 99 (o_goto 152) := zS_goto (by decide +kernel : decode (zmB 112) 99 = .ok (.goto 53, 3)) (by decide)
theorem zr_112_102 : zSnd 112 102 (o_aload 0 103) := zS_aload_n (i := 0) (by decide +kernel) rfl rfl
theorem zr_112_103 : zSnd 112 103 (o_getf 6 8 106) := zS_getf (idx := 201) (by decide +kernel) rfl (by decide) rfl (by decide) rfl zin_6 zq_329
theorem zr_112_106 : zSnd 112 106 (o_const 100 108) := zS_bipush (by decide +kernel) rfl (by decide) (by decide)
theorem zr_112_108 : zSnd 112 108 (o_cne 119 111) := zS_cne (by decide +kernel : decode (zmB 112) 108 = .ok (.if_icmp .ne 11, 3)) rfl (by decide)
theorem zr_112_111 : zSnd 112 111 (o_aload 0 112) := zS_aload_n (i := 0) (by decide +kernel) rfl rfl
theorem zr_112_112 : zSnd 112 112 (o_callv 6 111 1 1 1 115) := zS_callV (n := 0) (idx := 210) (by decide +kernel) rfl rfl (by decide) rfl zq_336 zq_337 zq_338 (by decide +kernel) zMk_111 (by decide +kernel) (by decide +kernel) (by decide +kernel)
theorem zr_112_115 : zSnd 112 115 (o_istore 1 116) := zS_istore_n (i := 1) (by decide +kernel) rfl rfl (by decide +kernel)
theorem zr_112_116 : zSnd 112 116 (o_goto 152) := zS_goto (by decide +kernel : decode (zmB 112) 116 = .ok (.goto 36, 3)) (by decide)
theorem zr_112_119 : zSnd 112 119 (o_aload 0 120) := zS_aload_n (i := 0) (by decide +kernel) rfl rfl
theorem zr_112_120 : zSnd 112 120 (o_getf 6 8 123) := zS_getf (idx := 201) (by decide +kernel) rfl (by decide) rfl (by decide) rfl zin_6 zq_329
theorem zr_112_123 : zSnd 112 123 (o_const 112 125) := zS_bipush (by decide +kernel) rfl (by decide) (by decide)
theorem zr_112_125 : zSnd 112 125 (o_cne 152 128) := zS_cne (by decide +kernel : decode (zmB 112) 125 = .ok (.if_icmp .ne 27, 3)) rfl (by decide)
theorem zr_112_128 : zSnd 112 128 (o_aload 0 129) := zS_aload_n (i := 0) (by decide +kernel) rfl rfl
theorem zr_112_129 : zSnd 112 129 (o_aload 0 130) := zS_aload_n (i := 0) (by decide +kernel) rfl rfl
theorem zr_112_130 : zSnd 112 130 (o_const 0 131) := zS_iconst (by decide +kernel) rfl (by decide)
theorem zr_112_131 : zSnd 112 131 (o_const 3 132) := zS_iconst (by decide +kernel) rfl (by decide)
theorem zr_112_132 : zSnd 112 132 (o_callv 6 107 3 5 1 135) := zS_callV (n := 2) (idx := 183) (by decide +kernel) rfl rfl (by decide) rfl zq_317 zq_318 zq_319 (by decide +kernel) zMk_107 (by decide +kernel) (by decide +kernel) (by decide +kernel)
theorem zr_112_135 : zSnd 112 135 (o_putf 6 9 138) := zS_putf (idx := 186) (by decide +kernel) rfl (by decide) rfl (by decide) rfl zin_6 tyX5_ok nmX5 rfl (by decide +kernel) zq_320
theorem zr_112_138 : zSnd 112 138 (o_aload 0 139) := zS_aload_n (i := 0) (by decide +kernel) rfl rfl
theorem zr_112_139 : zSnd 112 139 (o_getf 6 9 142) := zS_getf (idx := 186) (by decide +kernel) rfl (by decide) rfl (by decide) rfl zin_6 zq_320
theorem zr_112_142 : zSnd 112 142 (o_const (-1) 143) := zS_iconst (by decide +kernel) rfl (by decide)
theorem zr_112_143 : zSnd 112 143 (o_ceq 150 146) := zS_ceq (by decide +kernel : decode (zmB 112) 143 = .ok (.if_icmp .eq 7, 3)) rfl (by decide)
theorem zr_112_146 : zSnd 112 146 (o_const 1 147) := zS_iconst (by decide +kernel) rfl (by decide)
theorem zr_112_147 : zSnd 112 147 (o_goto 151) := zS_goto (by decide +kernel : decode (zmB 112) 147 = .ok (.goto 4, 3)) (by decide)
theorem zr_112_150 : zSnd 112 150 (o_const 0 151) := zS_iconst (by decide +kernel) rfl (by decide)
theorem zr_112_151 : zSnd 112 151 (o_istore 1 152) := zS_istore_n (i := 1) (by decide +kernel) rfl rfl (by decide +kernel)
theorem zr_112_152 : zSnd 112 152 (o_iload 1 153) := zS_iload_n (i := 1) (by decide +kernel) rfl rfl
theorem zr_112_153 : zSnd 112 153 (o_ifeq 169 156) := zS_ifeq (by decide +kernel : decode (zmB 112) 153 = .ok (.ifCond .eq 16, 3)) rfl (by decide)
theorem zr_112_156 : zSnd 112 156 (o_aload 0 157) := zS_aload_n (i := 0) (by decide +kernel) rfl rfl
theorem zr_112_157 : zSnd 112 157 (o_const 59 159) := zS_bipush (by decide +kernel) rfl (by decide) (by decide)
theorem zr_112_159 : zSnd 112 159 (o_callv 6 106 2 3 1 162) := zS_callV (n := 1) (idx := 189) (by decide +kernel) rfl rfl (by decide) rfl zq_321 zq_322 zq_323 (by decide +kernel) zMk_106 (by decide +kernel) (by decide +kernel) (by decide +kernel)
theorem zr_112_162 : zSnd 112 162 (o_ifeq 169 165) := zS_ifeq (by decide +kernel : decode (zmB 112) 162 = .ok (.ifCond .eq 7, 3)) rfl (by decide)
theorem zr_112_165 : zSnd 112 165 (o_const 1 166) := zS_iconst (by decide +kernel) rfl (by decide)
theorem zr_112_166 : zSnd 112 166 (o_goto 170) := zS_goto (by decide +kernel : decode (zmB 112) 166 = .ok (.goto 4, 3)) (by decide)
theorem zr_112_169 : zSnd 112 169 (o_const 0 170) := zS_iconst (by decide +kernel) rfl (by decide)
theorem zr_112_170 : zSnd 112 170 (o_zret) := zS_zret (by decide +kernel) (by decide +kernel)
theorem zT_112 (pc : Nat) : zSnd 112 pc (zc_112 pc) := by
  unfold zc_112
  exact (zSn_nd (zSn_nd (zSn_nd (zSn_nd (zSn_nd (zSn_nd (zSn_lf zr_112_0) (zSn_lf zr_112_1)) (zSn_nd (zSn_lf zr_112_2) (zSn_nd (zSn_lf zr_112_5) (zSn_lf zr_112_8)))) (zSn_nd (zSn_nd (zSn_lf zr_112_9) (zSn_lf zr_112_12)) (zSn_nd (zSn_lf zr_112_14) (zSn_nd (zSn_lf zr_112_17) (zSn_lf zr_112_18))))) (zSn_nd (zSn_nd (zSn_nd (zSn_lf zr_112_21) (zSn_lf zr_112_23)) (zSn_nd (zSn_lf zr_112_26) (zSn_nd (zSn_lf zr_112_27) (zSn_lf zr_112_30)))) (zSn_nd (zSn_nd (zSn_lf zr_112_32) (zSn_nd (zSn_lf zr_112_35) (zSn_lf zr_112_36))) (zSn_nd (zSn_lf zr_112_39) (zSn_nd (zSn_lf zr_112_41) (zSn_lf zr_112_44)))))) (zSn_nd (zSn_nd (zSn_nd (zSn_nd (zSn_lf zr_112_45) (zSn_lf zr_112_48)) (zSn_nd (zSn_lf zr_112_49) (zSn_nd (zSn_lf zr_112_50) (zSn_lf zr_112_51)))) (zSn_nd (zSn_nd (zSn_lf zr_112_52) (zSn_nd (zSn_lf zr_112_55) (zSn_lf zr_112_56))) (zSn_nd (zSn_lf zr_112_59) (zSn_nd (zSn_lf zr_112_60) (zSn_lf zr_112_63))))) (zSn_nd (zSn_nd (zSn_nd (zSn_lf zr_112_64) (zSn_lf zr_112_65)) (zSn_nd (zSn_lf zr_112_68) (zSn_nd (zSn_lf zr_112_69) (zSn_lf zr_112_72)))) (zSn_nd (zSn_nd (zSn_lf zr_112_74) (zSn_nd (zSn_lf zr_112_77) (zSn_lf zr_112_78))) (zSn_nd (zSn_lf zr_112_81) (zSn_nd (zSn_lf zr_112_82) (zSn_lf zr_112_85))))))) (zSn_nd (zSn_nd (zSn_nd (zSn_nd (zSn_nd (zSn_lf zr_112_86) (zSn_lf zr_112_89)) (zSn_nd (zSn_lf zr_112_91) (zSn_nd (zSn_lf zr_112_94) (zSn_lf zr_112_95)))) (zSn_nd (zSn_nd (zSn_lf zr_112_98) (zSn_lf zr_112_99)) (zSn_nd (zSn_lf zr_112_102) (zSn_nd (zSn_lf zr_112_103) (zSn_lf zr_112_106))))) (zSn_nd (zSn_nd (zSn_nd (zSn_lf zr_112_108) (zSn_lf zr_112_111)) (zSn_nd (zSn_lf zr_112_112) (zSn_nd (zSn_lf zr_112_115) (zSn_lf zr_112_116)))) (zSn_nd (zSn_nd (zSn_lf zr_112_119) (zSn_nd (zSn_lf zr_112_120) (zSn_lf zr_112_123))) (zSn_nd (zSn_lf zr_112_125) (zSn_nd (zSn_lf zr_112_128) (zSn_lf zr_112_129)))))) (zSn_nd (zSn_nd (zSn_nd (zSn_nd (zSn_lf zr_112_130) (zSn_lf zr_112_131)) (zSn_nd (zSn_lf zr_112_132) (zSn_nd (zSn_lf zr_112_135) (zSn_lf zr_112_138)))) (zSn_nd (zSn_nd (zSn_lf zr_112_139) (zSn_nd (zSn_lf zr_112_142) (zSn_lf zr_112_143))) (zSn_nd (zSn_lf zr_112_146) (zSn_nd (zSn_lf zr_112_147) (zSn_lf zr_112_150))))) (zSn_nd (zSn_nd (zSn_nd (zSn_lf zr_112_151) (zSn_lf zr_112_152)) (zSn_nd (zSn_lf zr_112_153) (zSn_nd (zSn_lf zr_112_156) (zSn_lf zr_112_157)))) (zSn_nd (zSn_nd (zSn_lf zr_112_159) (zSn_nd (zSn_lf zr_112_162) (zSn_lf zr_112_165))) (zSn_nd (zSn_lf zr_112_166) (zSn_nd (zSn_lf zr_112_169) (zSn_lf zr_112_170))))))))
theorem zr_113_0 : zSnd 113 0 (o_const 0 1) := zS_iconst (by decide +kernel) rfl (by decide)
theorem zr_113_1 : zSnd 113 1 (o_istore 1 2) := zS_istore_n (i := 1) (by decide +kernel) rfl rfl (by decide +kernel)
theorem zr_113_2 : zSnd 113 2 (o_aload 0 3) := zS_aload_n (i := 0) (by decide +kernel) rfl rfl
theorem zr_113_3 : zSnd 113 3 (o_getf 6 8 6) := zS_getf (idx := 201) (by decide +kernel) rfl (by decide) rfl (by decide) rfl zin_6 zq_329
theorem zr_113_6 : zSnd 113 6 (o_sw [(100, 114), (106, 40), (111, 73)] 155) := zS_lsw (by decide +kernel : decode (zmB 113) 6 = .ok (.lookupswitch 149 #[(100, 108), (106, 34), (111, 67)], 34)) (by decide) (by intro x; simp only [Op.lookupswitch.offset_cons, Op.lookupswitch.offset_nil, zsw]; (repeat' split) <;> omega)
theorem zr_113_40 : zSnd 113 40 (o_aload 0 41) := zS_aload_n (i := 0) (by decide +kernel) rfl rfl
theorem zr_113_41 : zSnd 113 41 (o_aload 0 42) := zS_aload_n (i := 0) (by decide +kernel) rfl rfl
theorem zr_113_42 : zSnd 113 42 (o_getf 6 9 45) := zS_getf (idx := 186) (by decide +kernel) rfl (by decide) rfl (by decide) rfl zin_6 zq_320
theorem zr_113_45 : zSnd 113 45 (o_aload 0 46) := zS_aload_n (i := 0) (by decide +kernel) rfl rfl
theorem zr_113_46 : zSnd 113 46 (o_getf 6 10 49) := zS_getf (idx := 195) (by decide +kernel) rfl (by decide) rfl (by decide) rfl zin_6 zq_327
theorem zr_113_49 : zSnd 113 49 (o_callv 6 48 3 3 1 52) := zS_callV (n := 2) (idx := 51) (by decide +kernel) rfl rfl (by decide) rfl zq_196 zq_197 zq_198 (by decide +kernel) zMk_48 (by decide +kernel) (by decide +kernel) (by decide +kernel)
theorem zr_113_52 : zSnd 113 52 (o_istore 1 53) := zS_istore_n (i := 1) (by decide +kernel) rfl rfl (by decide +kernel)
theorem zr_113_53 : zSnd 113 53 (o_iload 1 54) := zS_iload_n (i := 1) (by decide +kernel) rfl rfl
theorem zr_113_54 : zSnd 113 54 (o_ifne 163 57) := zS_ifne (by decide +kernel : decode (zmB 113) 54 = .ok (.ifCond .ne 109, 3)) rfl (by decide)
theorem zr_113_57 : zSnd 113 57 (o_aload 0 58) := zS_aload_n (i := 0) (by decide +kernel) rfl rfl
theorem zr_113_58 : zSnd 113 58 (o_aload 0 59) := zS_aload_n (i := 0) (by decide +kernel) rfl rfl
theorem zr_113_59 : zSnd 113 59 (o_getf 6 9 62) := zS_getf (idx := 186) (by decide +kernel) rfl (by decide) rfl (by decide) rfl zin_6 zq_320
theorem zr_113_62 : zSnd 113 62 (o_aload 0 63) := zS_aload_n (i := 0) (by decide +kernel) rfl rfl
theorem zr_113_63 : zSnd 113 63 (o_getf 6 10 66) := zS_getf (idx := 195) (by decide +kernel) rfl (by decide) rfl (by decide) rfl zin_6 zq_327
theorem zr_113_66 : zSnd 113 66 (o_callv 6 49 3 4 1 69) := zS_callV (n := 2) (idx := 54) (by decide +kernel) rfl rfl (by decide) rfl zq_199 zq_200 zq_201 (by decide +kernel) zMk_49 (by decide +kernel) (by decide +kernel) (by decide +kernel)
theorem zr_113_69 : zSnd 113 69 (o_pop 70) := zS_pop (by decide +kernel) rfl
theorem zr_113_70 : zSnd 113 70 (o_goto 163) := zS_goto (by decide +kernel : decode (zmB 113) 70 = .ok (.goto 93, 3)) (by decide)
theorem zr_113_73 : zSnd 113 73 (o_aload 0 74) := zS_aload_n (i := 0) (by decide +kernel) rfl rfl
theorem zr_113_74 : zSnd 113 74 (o_aload 0 75) := zS_aload_n (i := 0) (by decide +kernel) rfl rfl
theorem zr_113_75 : zSnd 113 75 (o_getf 6 9 78) := zS_getf (idx := 186) (by decide +kernel) rfl (by decide) rfl (by decide) rfl zin_6 zq_320
theorem zr_113_78 : zSnd 113 78 (o_aload 0 79) := zS_aload_n (i := 0) (by decide +kernel) rfl rfl
theorem zr_113_79 : zSnd 113 79 (o_getf 6 10 82) := zS_getf (idx := 195) (by decide +kernel) rfl (by decide) rfl (by decide) rfl zin_6 zq_327
theorem zr_113_82 : zSnd 113 82 (o_aload 0 83) := zS_aload_n (i := 0) (by decide +kernel) rfl rfl
theorem zr_113_83 : zSnd 113 83 (o_getf 6 11 86) := zS_getf (idx := 198) (by decide +kernel) rfl (by decide) rfl (by decide) rfl zin_6 zq_328
theorem zr_113_86 : zSnd 113 86 (o_callv 6 51 4 4 1 89) := zS_callV (n := 3) (idx := 60) (by decide +kernel) rfl rfl (by decide) rfl zq_205 zq_206 zq_207 (by decide +kernel) zMk_51 (by decide +kernel) (by decide +kernel) (by decide +kernel)
theorem zr_113_89 : zSnd 113 89 (o_istore 1 90) := zS_istore_n (i := 1) (by decide +kernel) rfl rfl (by decide +kernel)
theorem zr_113_90 : zSnd 113 90 (o_iload 1 91) := zS_iload_n (i := 1) (by decide +kernel) rfl rfl
theorem zr_113_91 : zSnd 113 91 (o_ifne 163 94) := zS_ifne (by decide +kernel : decode (zmB 113) 91 = .ok (.ifCond .ne 72, 3)) rfl (by decide)
theorem zr_113_94 : zSnd 113 94 (o_aload 0 95) := zS_aload_n (i := 0) (by decide +kernel) rfl rfl
theorem zr_113_95 : zSnd 113 95 (o_aload 0 96) := zS_aload_n (i := 0) (by decide +kernel) rfl rfl
theorem zr_113_96 : zSnd 113 96 (o_getf 6 9 99) := zS_getf (idx := 186) (by decide +kernel) rfl (by decide) rfl (by decide) rfl zin_6 zq_320
theorem zr_113_99 : zSnd 113 99 (o_aload 0 100) := zS_aload_n (i := 0) (by decide +kernel) rfl rfl
theorem zr_113_100 : zSnd 113 100 (o_getf 6 10 103) := zS_getf (idx := 195) (by decide +kernel) rfl (by decide) rfl (by decide) rfl zin_6 zq_327
theorem zr_113_103 : zSnd 113 103 (o_aload 0 104) := zS_aload_n (i := 0) (by decide +kernel) rfl rfl
theorem zr_113_104 : zSnd 113 104 (o_getf 6 11 107) := zS_getf (idx := 198) (by decide +kernel) rfl (by decide) rfl (by decide) rfl zin_6 zq_328
theorem zr_113_107 : zSnd 113 107 (o_callv 6 52 4 5 1 110) := zS_callV (n := 3) (idx := 64) (by decide +kernel) rfl rfl (by decide) rfl zq_208 zq_209 zq_210 (by decide +kernel) zMk_52 (by decide +kernel) (by decide +kernel) (by decide +kernel)
theorem zr_113_110 : zSnd 113 110 (o_pop 111) := zS_pop (by decide +kernel) rfl
theorem zr_113_111 : zSnd 113 111 (o_goto 163) := zS_goto (by decide +kernel : decode (zmB 113) 111 = .ok (.goto 52, 3)) (by decide)
theorem zr_113_114 : zSnd 113 114 (o_aload 0 115) := zS_aload_n (i := 0) (by decide +kernel) rfl rfl
theorem zr_113_115 : zSnd 113 115 (o_aload 0 116) := zS_aload_n (i := 0) (by decide +kernel) rfl rfl
theorem zr_113_116 : zSnd 113 116 (o_getf 6 9 119) := zS_getf (idx := 186) (by decide +kernel) rfl (by decide) rfl (by decide) rfl zin_6 zq_320
theorem zr_113_119 : zSnd 113 119 (o_aload 0 120) := zS_aload_n (i := 0) (by decide +kernel) rfl rfl
theorem zr_113_120 : zSnd 113 120 (o_getf 6 10 123) := zS_getf (idx := 195) (by decide +kernel) rfl (by decide) rfl (by decide) rfl zin_6 zq_327
theorem zr_113_123 : zSnd 113 123 (o_aload 0 124) := zS_aload_n (i := 0) (by decide +kernel) rfl rfl
theorem zr_113_124 : zSnd 113 124 (o_getf 6 11 127) := zS_getf (idx := 198) (by decide +kernel) rfl (by decide) rfl (by decide) rfl zin_6 zq_328
theorem zr_113_127 : zSnd 113 127 (o_callv 6 54 4 4 1 130) := zS_callV (n := 3) (idx := 67) (by decide +kernel) rfl rfl (by decide) rfl zq_211 zq_212 zq_213 (by decide +kernel) zMk_54 (by decide +kernel) (by decide +kernel) (by decide +kernel)
theorem zr_113_130 : zSnd 113 130 (o_istore 1 131) := zS_istore_n (i := 1) (by decide +kernel) rfl rfl (by decide +kernel)
theorem zr_113_131 : zSnd 113 131 (o_iload 1 132) := zS_iload_n (i := 1) (by decide +kernel) rfl rfl
theorem zr_113_132 : zSnd 113 132 (o_ifne 163 135) := zS_ifne (by decide +kernel : decode (zmB 113) 132 = .ok (.ifCond .ne 31, 3)) rfl (by decide)
theorem zr_113_135 : zSnd 113 135 (o_aload 0 136) := zS_aload_n (i := 0) (by decide +kernel) rfl rfl
theorem zr_113_136 : zSnd 113 136 (o_aload 0 137) := zS_aload_n (i := 0) (by decide +kernel) rfl rfl
theorem zr_113_137 : zSnd 113 137 (o_getf 6 9 140) := zS_getf (idx := 186) (by decide +kernel) rfl (by decide) rfl (by decide) rfl zin_6 zq_320
theorem zr_113_140 : zSnd 113 140 (o_aload 0 141) := zS_aload_n (i := 0) (by decide +kernel) rfl rfl
theorem zr_113_141 : zSnd 113 141 (o_getf 6 10 144) := zS_getf (idx := 195) (by decide +kernel) rfl (by decide) rfl (by decide) rfl zin_6 zq_327
theorem zr_113_144 : zSnd 113 144 (o_aload 0 145) := zS_aload_n (i := 0) (by decide +kernel) rfl rfl
theorem zr_113_145 : zSnd 113 145 (o_getf 6 11 148) := zS_getf (idx := 198) (by decide +kernel) rfl (by decide) rfl (by decide) rfl zin_6 zq_328
theorem zr_113_148 : zSnd 113 148 (o_callv 6 55 4 5 1 151) := zS_callV (n := 3) (idx := 70) (by decide +kernel) rfl rfl (by decide) rfl zq_214 zq_215 zq_216 (by decide +kernel) zMk_55 (by decide +kernel) (by decide +kernel) (by decide +kernel)
theorem zr_113_151 : zSnd 113 151 (o_pop 152) := zS_pop (by decide +kernel) rfl
theorem zr_113_152 : zSnd 113 152 (o_goto 163) := zS_goto (by decide +kernel : decode (zmB 113) 152 = .ok (.goto 11, 3)) (by decide)
theorem zr_113_155 : zSnd 113 155 (o_aload 0 156) := zS_aload_n (i := 0) (by decide +kernel) rfl rfl
theorem zr_113_156 : zSnd 113 156 (o_aload 0 157) := zS_aload_n (i := 0) (by decide +kernel) rfl rfl
theorem zr_113_157 : zSnd 113 157 (o_getf 6 9 160) := zS_getf (idx := 186) (by decide +kernel) rfl (by decide) rfl (by decide) rfl zin_6 zq_320
theorem zr_113_160 : zSnd 113 160 (o_callv 6 68 2 4 0 163) := zS_callV (n := 1) (idx := 111) (by decide +kernel) rfl rfl (by decide) rfl zq_252 zq_253 zq_254 (by decide +kernel) zMk_68 (by decide +kernel) (by decide +kernel) (by decide +kernel)
theorem zr_113_163 : zSnd 113 163 (o_iload 1 164) := zS_iload_n (i := 1) (by decide +kernel) rfl rfl
theorem zr_113_164 : zSnd 113 164 (o_ifne 171 167) := zS_ifne (by decide +kernel : decode (zmB 113) 164 = .ok (.ifCond .ne 7, 3)) rfl (by decide)
theorem zr_113_167 : zSnd 113 167 (o_const 1 168) := zS_iconst (by decide +kernel) rfl (by decide)
theorem zr_113_168 : zSnd 113 168 (o_goto 172) := zS_goto (by decide +kernel : decode (zmB 113) 168 = .ok (.goto 4, 3)) (by decide)
theorem zr_113_171 : zSnd 113 171 (o_const 0 172) := zS_iconst (by decide +kernel) rfl (by decide)
theorem zr_113_172 : zSnd 113 172 (o_zret) := zS_zret (by decide +kernel) (by decide +kernel)
theorem zT_113 (pc : Nat) : zSnd 113 pc (zc_113 pc) := by
  unfold zc_113
  exact (zSn_nd (zSn_nd (zSn_nd (zSn_nd (zSn_nd (zSn_nd (zSn_lf zr_113_0) (zSn_lf zr_113_1)) (zSn_nd (zSn_lf zr_113_2) (zSn_lf zr_113_3))) (zSn_nd (zSn_nd (zSn_lf zr_113_6) (zSn_lf zr_113_40)) (zSn_nd (zSn_lf zr_113_41) (zSn_nd (zSn_lf zr_113_42) (zSn_lf zr_113_45))))) (zSn_nd (zSn_nd (zSn_nd (zSn_lf zr_113_46) (zSn_lf zr_113_49)) (zSn_nd (zSn_lf zr_113_52) (zSn_lf zr_113_53))) (zSn_nd (zSn_nd (zSn_lf zr_113_54) (zSn_lf zr_113_57)) (zSn_nd (zSn_lf zr_113_58) (zSn_nd (zSn_lf zr_113_59) (zSn_lf zr_113_62)))))) (zSn_nd (zSn_nd (zSn_nd (zSn_nd (zSn_lf zr_113_63) (zSn_lf zr_113_66)) (zSn_nd (zSn_lf zr_113_69) (zSn_lf zr_113_70))) (zSn_nd (zSn_nd (zSn_lf zr_113_73) (zSn_lf zr_113_74)) (zSn_nd (zSn_lf zr_113_75) (zSn_nd (zSn_lf zr_113_78) (zSn_lf zr_113_79))))) (zSn_nd (zSn_nd (zSn_nd (zSn_lf zr_113_82) (zSn_lf zr_113_83)) (zSn_nd (zSn_lf zr_113_86) (zSn_nd (zSn_lf zr_113_89) (zSn_lf zr_113_90)))) (zSn_nd (zSn_nd (zSn_lf zr_113_91) (zSn_lf zr_113_94)) (zSn_nd (zSn_lf zr_113_95) (zSn_nd (zSn_lf zr_113_96) (zSn_lf zr_113_99))))))) (zSn_nd (zSn_nd (zSn_nd (zSn_nd (zSn_nd (zSn_lf zr_113_100) (zSn_lf zr_113_103)) (zSn_nd (zSn_lf zr_113_104) (zSn_lf zr_113_107))) (zSn_nd (zSn_nd (zSn_lf zr_113_110) (zSn_lf zr_113_111)) (zSn_nd (zSn_lf zr_113_114) (zSn_nd (zSn_lf zr_113_115) (zSn_lf zr_113_116))))) (zSn_nd (zSn_nd (zSn_nd (zSn_lf zr_113_119) (zSn_lf zr_113_120)) (zSn_nd (zSn_lf zr_113_123) (zSn_lf zr_113_124))) (zSn_nd (zSn_nd (zSn_lf zr_113_127) (zSn_lf zr_113_130)) (zSn_nd (zSn_lf zr_113_131) (zSn_nd (zSn_lf zr_113_132) (zSn_lf zr_113_135)))))) (zSn_nd (zSn_nd (zSn_nd (zSn_nd (zSn_lf zr_113_136) (zSn_lf zr_113_137)) (zSn_nd (zSn_lf zr_113_140) (zSn_lf zr_113_141))) (zSn_nd (zSn_nd (zSn_lf zr_113_144) (zSn_lf zr_113_145)) (zSn_nd (zSn_lf zr_113_148) (zSn_nd (zSn_lf zr_113_151) (zSn_lf zr_113_152))))) (zSn_nd (zSn_nd (zSn_nd (zSn_lf zr_113_155) (zSn_lf zr_113_156)) (zSn_nd (zSn_lf zr_113_157) (zSn_nd (zSn_lf zr_113_160) (zSn_lf zr_113_163)))) (zSn_nd (zSn_nd (zSn_lf zr_113_164) (zSn_lf zr_113_167)) (zSn_nd (zSn_lf zr_113_168) (zSn_nd (zSn_lf zr_113_171) (zSn_lf zr_113_172))))))))
theorem zr_114_0 : zSnd 114 0 (o_aload 0 1) := zS_aload_n (i := 0) (by decide +kernel) rfl rfl
theorem zr_114_1 : zSnd 114 1 (o_const 0 2) := zS_iconst (by decide +kernel) rfl (by decide)
theorem zr_114_2 : zSnd 114 2 (o_putf 6 0 5) := zS_putf (idx := 22) (by decide +kernel) rfl (by decide) rfl (by decide) rfl zin_6 tyX5_ok nmX5 rfl (by decide +kernel) zq_177
theorem zr_114_5 : zSnd 114 5 (o_aload 0 6) := zS_aload_n (i := 0) (by decide +kernel) rfl rfl
theorem zr_114_6 : zSnd 114 6 (o_const 0 7) := zS_iconst (by decide +kernel) rfl (by decide)
theorem zr_114_7 : zSnd 114 7 (o_putf 6 7 10) := zS_putf (idx := 177) (by decide +kernel) rfl (by decide) rfl (by decide) rfl zin_6 tyX5_ok nmX5 rfl (by decide +kernel) zq_313
theorem zr_114_10 : zSnd 114 10 (o_const 1 11) := zS_iconst (by decide +kernel) rfl (by decide)
theorem zr_114_11 : zSnd 114 11 (o_istore 1 12) := zS_istore_n (i := 1) (by decide +kernel) rfl rfl (by decide +kernel)
theorem zr_114_12 : zSnd 114 12 (o_iload 1 13) := zS_iload_n (i := 1) (by decide +kernel) rfl rfl
theorem zr_114_13 : zSnd 114 13 (o_ifeq 35 16) := zS_ifeq (by decide +kernel : decode (zmB 114) 13 = .ok (.ifCond .eq 22, 3)) rfl (by decide)
theorem zr_114_16 : zSnd 114 16 (o_aload 0 17) := zS_aload_n (i := 0) (by decide +kernel) rfl rfl
theorem zr_114_17 : zSnd 114 17 (o_getf 6 7 20) := zS_getf (idx := 177) (by decide +kernel) rfl (by decide) rfl (by decide) rfl zin_6 zq_313
theorem zr_114_20 : zSnd 114 20 (o_aload 0 21) := zS_aload_n (i := 0) (by decide +kernel) rfl rfl
theorem zr_114_21 : zSnd 114 21 (o_getf 6 6 24) := zS_getf (idx := 174) (by decide +kernel) rfl (by decide) rfl (by decide) rfl zin_6 zq_311
theorem zr_114_24 : zSnd 114 24 (o_cge 35 27) := zS_cge (by decide +kernel : decode (zmB 114) 24 = .ok (.if_icmp .ge 11, 3)) rfl (by decide)
theorem zr_114_27 : zSnd 114 27 (o_aload 0 28) := zS_aload_n (i := 0) (by decide +kernel) rfl rfl
theorem zr_114_28 : zSnd 114 28 (o_callv 6 112 1 2 1 31) := zS_callV (n := 0) (idx := 213) (by decide +kernel) rfl rfl (by decide) rfl zq_339 zq_340 zq_341 (by decide +kernel) zMk_112 (by decide +kernel) (by decide +kernel) (by decide +kernel)
theorem zr_114_31 : zSnd 114 31 (o_istore 1 32) := zS_istore_n (i := 1) (by decide +kernel) rfl rfl (by decide +kernel)
theorem zr_114_32 : zSnd 114 32 (o_goto 12) := zS_goto (by decide +kernel : decode (zmB 114) 32 = .ok (.goto (-20), 3)) (by decide)
theorem zr_114_35 : zSnd 114 35 (o_iload 1 36) := zS_iload_n (i := 1) (by decide +kernel) rfl rfl
theorem zr_114_36 : zSnd 114 36 (o_ifne 47 39) := zS_ifne (by decide +kernel : decode (zmB 114) 36 = .ok (.ifCond .ne 11, 3)) rfl (by decide)
theorem zr_114_39 : zSnd 114 39 (o_const (-10) 41) := zS_bipush (by decide +kernel) rfl (by decide) (by decide)
theorem zr_114_41 : zSnd 114 41 (o_aload 0 42) := zS_aload_n (i := 0) (by decide +kernel) rfl rfl
theorem zr_114_42 : zSnd 114 42 (o_getf 6 7 45) := zS_getf (idx := 177) (by decide +kernel) rfl (by decide) rfl (by decide) rfl zin_6 zq_313
theorem zr_114_45 : zSnd 114 45 (o_isub 46) := zS_isub (by decide +kernel) rfl
theorem zr_114_46 : zSnd 114 46 (o_iret) := zS_iret (by decide +kernel) (by decide +kernel)
theorem zr_114_47 : zSnd 114 47 (o_aload 0 48) := zS_aload_n (i := 0) (by decide +kernel) rfl rfl
theorem zr_114_48 : zSnd 114 48 (o_callv 6 39 1 2 0 51) := zS_callV (n := 0) (idx := 48) (by decide +kernel) rfl rfl (by decide) rfl zq_193 zq_194 zq_195 (by decide +kernel) zMk_39 (by decide +kernel) (by decide +kernel) (by decide +kernel)
theorem zr_114_51 : zSnd 114 51 (o_aload 0 52) := zS_aload_n (i := 0) (by decide +kernel) rfl rfl
theorem zr_114_52 : zSnd 114 52 (o_const 0 53) := zS_iconst (by decide +kernel) rfl (by decide)
theorem zr_114_53 : zSnd 114 53 (o_putf 6 7 56) := zS_putf (idx := 177) (by decide +kernel) rfl (by decide) rfl (by decide) rfl zin_6 tyX5_ok nmX5 rfl (by decide +kernel) zq_313
theorem zr_114_56 : zSnd 114 56 (o_const 0 57) := zS_iconst (by decide +kernel) rfl (by decide)
theorem zr_114_57 : zSnd 114 57 (o_istore 2 58) := zS_istore_n (i := 2) (by decide +kernel) rfl rfl (by decide +kernel)
theorem zr_114_58 : zSnd 114 58 (o_const 1 59) := zS_iconst (by decide +kernel) rfl (by decide)
theorem zr_114_59 : zSnd 114 59 (o_istore 3 60) := zS_istore_n (i := 3) (by decide +kernel) rfl rfl (by decide +kernel)
theorem zr_114_60 : zSnd 114 60 (o_iload 3 61) := zS_iload_n (i := 3) (by decide +kernel) rfl rfl
theorem zr_114_61 : zSnd 114 61 (o_ifeq 100 64) := zS_ifeq (by decide +kernel : decode (zmB 114) 61 = .ok (.ifCond .eq 39, 3)) rfl (by decide)
theorem zr_114_64 : zSnd 114 64 (o_aload 0 65) := zS_aload_n (i := 0) (by decide +kernel) rfl rfl
theorem zr_114_65 : zSnd 114 65 (o_getf 6 7 68) := zS_getf (idx := 177) (by decide +kernel) rfl (by decide) rfl (by decide) rfl zin_6 zq_313
theorem zr_114_68 : zSnd 114 68 (o_aload 0 69) := zS_aload_n (i := 0) (by decide +kernel) rfl rfl
theorem zr_114_69 : zSnd 114 69 (o_getf 6 6 72) := zS_getf (idx := 174) (by decide +kernel) rfl (by decide) rfl (by decide) rfl zin_6 zq_311
theorem zr_114_72 : zSnd 114 72 (o_cge 100 75) := zS_cge (by decide +kernel : decode (zmB 114) 72 = .ok (.if_icmp .ge 28, 3)) rfl (by decide)
theorem zr_114_75 : zSnd 114 75 (o_aload 0 76) := zS_aload_n (i := 0) (by decide +kernel) rfl rfl
theorem zr_114_76 : zSnd 114 76 (o_callv 6 112 1 2 1 79) := zS_callV (n := 0) (idx := 213) (by decide +kernel) rfl rfl (by decide) rfl zq_339 zq_340 zq_341 (by decide +kernel) zMk_112 (by decide +kernel) (by decide +kernel) (by decide +kernel)
theorem zr_114_79 : zSnd 114 79 (o_pop 80) := zS_pop (by decide +kernel) rfl
theorem zr_114_80 : zSnd 114 80 (o_aload 0 81) := zS_aload_n (i := 0) (by decide +kernel) rfl rfl
theorem zr_114_81 : zSnd 114 81 (o_callv 6 113 1 2 1 84) := zS_callV (n := 0) (idx := 216) (by decide +kernel) rfl rfl (by decide) rfl zq_342 zq_343 zq_344 (by decide +kernel) zMk_113 (by decide +kernel) (by decide +kernel) (by decide +kernel)
theorem zr_114_84 : zSnd 114 84 (o_istore 3 85) := zS_istore_n (i := 3) (by decide +kernel) rfl rfl (by decide +kernel)
theorem zr_114_85 : zSnd 114 85 (o_iload 2 86) := zS_iload_n (i := 2) (by decide +kernel) rfl rfl
theorem zr_114_86 : zSnd 114 86 (o_iload 3 87) := zS_iload_n (i := 3) (by decide +kernel) rfl rfl
theorem zr_114_87 : zSnd 114 87 (o_ifeq 94 90) := zS_ifeq (by decide +kernel : decode (zmB 114) 87 = .ok (.ifCond .eq 7, 3)) rfl (by decide)
theorem zr_114_90 : zSnd 114 90 (o_const 1 91) := zS_iconst (by decide +kernel) rfl (by decide)
theorem zr_114_91 : zSnd 114 91 (o_goto 95) := zS_goto (by decide +kernel : decode (zmB 114) 91 = .ok (.goto 4, 3)) (by decide)
theorem zr_114_94 : zSnd 114 94 (o_const 0 95) := zS_iconst (by decide +kernel) rfl (by decide)
theorem zr_114_95 : zSnd 114 95 (o_iadd 96) := zS_iadd (by decide +kernel) rfl
theorem zr_114_96 : zSnd 114 96 (o_istore 2 97) := zS_istore_n (i := 2) (by decide +kernel) rfl rfl (by decide +kernel)
theorem zr_114_97 : zSnd 114 97 (o_goto 60) := zS_goto (by decide +kernel : decode (zmB 114) 97 = .ok (.goto (-37), 3)) (by decide)
theorem zr_114_100 : zSnd 114 100 (o_iload 2 101) := zS_iload_n (i := 2) (by decide +kernel) rfl rfl
theorem zr_114_101 : zSnd 114 101 (o_iret) := zS_iret (by decide +kernel) (by decide +kernel)
theorem zT_114 (pc : Nat) : zSnd 114 pc (zc_114 pc) := by
  unfold zc_114
  exact (zSn_nd (zSn_nd (zSn_nd (zSn_nd (zSn_nd (zSn_lf zr_114_0) (zSn_nd (zSn_lf zr_114_1) (zSn_lf zr_114_2))) (zSn_nd (zSn_nd (zSn_lf zr_114_5) (zSn_lf zr_114_6)) (zSn_nd (zSn_lf zr_114_7) (zSn_lf zr_114_10)))) (zSn_nd (zSn_nd (zSn_lf zr_114_11) (zSn_nd (zSn_lf zr_114_12) (zSn_lf zr_114_13))) (zSn_nd (zSn_nd (zSn_lf zr_114_16) (zSn_lf zr_114_17)) (zSn_nd (zSn_lf zr_114_20) (zSn_lf zr_114_21))))) (zSn_nd (zSn_nd (zSn_nd (zSn_lf zr_114_24) (zSn_nd (zSn_lf zr_114_27) (zSn_lf zr_114_28))) (zSn_nd (zSn_nd (zSn_lf zr_114_31) (zSn_lf zr_114_32)) (zSn_nd (zSn_lf zr_114_35) (zSn_lf zr_114_36)))) (zSn_nd (zSn_nd (zSn_nd (zSn_lf zr_114_39) (zSn_lf zr_114_41)) (zSn_nd (zSn_lf zr_114_42) (zSn_lf zr_114_45))) (zSn_nd (zSn_nd (zSn_lf zr_114_46) (zSn_lf zr_114_47)) (zSn_nd (zSn_lf zr_114_48) (zSn_lf zr_114_51)))))) (zSn_nd (zSn_nd (zSn_nd (zSn_nd (zSn_lf zr_114_52) (zSn_nd (zSn_lf zr_114_53) (zSn_lf zr_114_56))) (zSn_nd (zSn_nd (zSn_lf zr_114_57) (zSn_lf zr_114_58)) (zSn_nd (zSn_lf zr_114_59) (zSn_lf zr_114_60)))) (zSn_nd (zSn_nd (zSn_nd (zSn_lf zr_114_61) (zSn_lf zr_114_64)) (zSn_nd (zSn_lf zr_114_65) (zSn_lf zr_114_68))) (zSn_nd (zSn_nd (zSn_lf zr_114_69) (zSn_lf zr_114_72)) (zSn_nd (zSn_lf zr_114_75) (zSn_lf zr_114_76))))) (zSn_nd (zSn_nd (zSn_nd (zSn_lf zr_114_79) (zSn_nd (zSn_lf zr_114_80) (zSn_lf zr_114_81))) (zSn_nd (zSn_nd (zSn_lf zr_114_84) (zSn_lf zr_114_85)) (zSn_nd (zSn_lf zr_114_86) (zSn_lf zr_114_87)))) (zSn_nd (zSn_nd (zSn_nd (zSn_lf zr_114_90) (zSn_lf zr_114_91)) (zSn_nd (zSn_lf zr_114_94) (zSn_lf zr_114_95))) (zSn_nd (zSn_nd (zSn_lf zr_114_96) (zSn_lf zr_114_97)) (zSn_nd (zSn_lf zr_114_100) (zSn_lf zr_114_101)))))))
theorem zr_115_0 : zSnd 115 0 (o_aload 0 1) := zS_aload_n (i := 0) (by decide +kernel) rfl rfl
theorem zr_115_1 : zSnd 115 1 (o_aload 0 2) := zS_aload_n (i := 0) (by decide +kernel) rfl rfl
theorem zr_115_2 : zSnd 115 2 (o_getf 6 4 5) := zS_getf (idx := 26) (by decide +kernel) rfl (by decide) rfl (by decide) rfl zin_6 zq_178
theorem zr_115_5 : zSnd 115 5 (o_ifle 12 8) := zS_ifle (by decide +kernel : decode (zmB 115) 5 = .ok (.ifCond .le 7, 3)) rfl (by decide)
theorem zr_115_8 : zSnd 115 8 (o_const 0 9) := zS_iconst (by decide +kernel) rfl (by decide)
theorem zr_115_9 : zSnd 115 9 (o_goto 13) := zS_goto (by decide +kernel : decode (zmB 115) 9 = .ok (.goto 4, 3)) (by decide)
theorem zr_115_12 : zSnd 115 12 (o_const 1 13) := zS_iconst (by decide +kernel) rfl (by decide)
theorem zr_115_13 : zSnd 115 13 (o_putf 6 0 16) := zS_putf (idx := 22) (by decide +kernel) rfl (by decide) rfl (by decide) rfl zin_6 tyX5_ok nmX5 rfl (by decide +kernel) zq_177
theorem zr_115_16 : zSnd 115 16 (o_aload 0 17) := zS_aload_n (i := 0) (by decide +kernel) rfl rfl
theorem zr_115_17 : zSnd 115 17 (o_getf 6 0 20) := zS_getf (idx := 22) (by decide +kernel) rfl (by decide) rfl (by decide) rfl zin_6 zq_177
theorem zr_115_20 : zSnd 115 20 (o_ifle 25 23) := zS_ifle (by decide +kernel : decode (zmB 115) 20 = .ok (.ifCond .le 5, 3)) rfl (by decide)
theorem zr_115_23 : zSnd 115 23 (o_const 0 24) := zS_iconst (by decide +kernel) rfl (by decide)
theorem zr_115_24 : zSnd 115 24 (o_iret) := zS_iret (by decide +kernel) (by decide +kernel)
theorem zr_115_25 : zSnd 115 25 (o_aload 0 26) := zS_aload_n (i := 0) (by decide +kernel) rfl rfl
theorem zr_115_26 : zSnd 115 26 (o_dup 27) := zS_dup (by decide +kernel) rfl
theorem zr_115_27 : zSnd 115 27 (o_getf 6 4 30) := zS_getf (idx := 26) (by decide +kernel) rfl (by decide) rfl (by decide) rfl zin_6 zq_178
theorem zr_115_30 : zSnd 115 30 (o_const 1 31) := zS_iconst (by decide +kernel) rfl (by decide)
theorem zr_115_31 : zSnd 115 31 (o_isub 32) := zS_isub (by decide +kernel) rfl
theorem zr_115_32 : zSnd 115 32 (o_putf 6 4 35) := zS_putf (idx := 26) (by decide +kernel) rfl (by decide) rfl (by decide) rfl zin_6 tyX5_ok nmX5 rfl (by decide +kernel) zq_178
theorem zr_115_35 : zSnd 115 35 (o_aload 0 36) := zS_aload_n (i := 0) (by decide +kernel) rfl rfl
theorem zr_115_36 : zSnd 115 36 (o_getf 6 3 39) := zS_getf (idx := 16) (by decide +kernel) rfl (by decide) rfl (by decide) rfl zin_6 zq_179
theorem zr_115_39 : zSnd 115 39 (o_aload 0 40) := zS_aload_n (i := 0) (by decide +kernel) rfl rfl
theorem zr_115_40 : zSnd 115 40 (o_getf 6 4 43) := zS_getf (idx := 26) (by decide +kernel) rfl (by decide) rfl (by decide) rfl zin_6 zq_178
theorem zr_115_43 : zSnd 115 43 (o_const 161 46) := zS_sipush (by decide +kernel) rfl (by decide) (by decide)
theorem zr_115_46 : zSnd 115 46 (o_imul 47) := zS_imul (by decide +kernel) rfl
theorem zr_115_47 : zSnd 115 47 (o_aload 0 48) := zS_aload_n (i := 0) (by decide +kernel) rfl rfl
theorem zr_115_48 : zSnd 115 48 (o_getf 6 1 51) := zS_getf (idx := 7) (by decide +kernel) rfl (by decide) rfl (by decide) rfl zin_6 zq_180
theorem zr_115_51 : zSnd 115 51 (o_const 0 52) := zS_iconst (by decide +kernel) rfl (by decide)
theorem zr_115_52 : zSnd 115 52 (o_call 37 4 5 0 55) := zS_callS (idx := 29) (by decide +kernel) rfl zq_181 zq_182 (by decide +kernel) zMk_37 (by decide +kernel) (by decide +kernel) (by decide +kernel)
theorem zr_115_55 : zSnd 115 55 (o_aload 0 56) := zS_aload_n (i := 0) (by decide +kernel) rfl rfl
theorem zr_115_56 : zSnd 115 56 (o_getf 6 4 59) := zS_getf (idx := 26) (by decide +kernel) rfl (by decide) rfl (by decide) rfl zin_6 zq_178
theorem zr_115_59 : zSnd 115 59 (o_iret) := zS_iret (by decide +kernel) (by decide +kernel)
theorem zT_115 (pc : Nat) : zSnd 115 pc (zc_115 pc) := by
  unfold zc_115
  exact (zSn_nd (zSn_nd (zSn_nd (zSn_nd (zSn_nd (zSn_lf zr_115_0) (zSn_lf zr_115_1)) (zSn_nd (zSn_lf zr_115_2) (zSn_lf zr_115_5))) (zSn_nd (zSn_nd (zSn_lf zr_115_8) (zSn_lf zr_115_9)) (zSn_nd (zSn_lf zr_115_12) (zSn_lf zr_115_13)))) (zSn_nd (zSn_nd (zSn_nd (zSn_lf zr_115_16) (zSn_lf zr_115_17)) (zSn_nd (zSn_lf zr_115_20) (zSn_lf zr_115_23))) (zSn_nd (zSn_nd (zSn_lf zr_115_24) (zSn_lf zr_115_25)) (zSn_nd (zSn_lf zr_115_26) (zSn_lf zr_115_27))))) (zSn_nd (zSn_nd (zSn_nd (zSn_nd (zSn_lf zr_115_30) (zSn_lf zr_115_31)) (zSn_nd (zSn_lf zr_115_32) (zSn_lf zr_115_35))) (zSn_nd (zSn_nd (zSn_lf zr_115_36) (zSn_lf zr_115_39)) (zSn_nd (zSn_lf zr_115_40) (zSn_lf zr_115_43)))) (zSn_nd (zSn_nd (zSn_nd (zSn_lf zr_115_46) (zSn_lf zr_115_47)) (zSn_nd (zSn_lf zr_115_48) (zSn_lf zr_115_51))) (zSn_nd (zSn_nd (zSn_lf zr_115_52) (zSn_lf zr_115_55)) (zSn_nd (zSn_lf zr_115_56) (zSn_lf zr_115_59))))))
theorem zr_116_0 : zSnd 116 0 (o_aload 0 1) := zS_aload_n (i := 0) (by decide +kernel) rfl rfl
theorem zr_116_1 : zSnd 116 1 (o_const 0 2) := zS_iconst (by decide +kernel) rfl (by decide)
theorem zr_116_2 : zSnd 116 2 (o_putf 6 0 5) := zS_putf (idx := 22) (by decide +kernel) rfl (by decide) rfl (by decide) rfl zin_6 tyX5_ok nmX5 rfl (by decide +kernel) zq_177
theorem zr_116_5 : zSnd 116 5 (o_lconst 115289 8) := zS_ldc2 (idx := 219) (by decide +kernel) rfl zq_345
theorem zr_116_8 : zSnd 116 8 (o_aload 0 9) := zS_aload_n (i := 0) (by decide +kernel) rfl rfl
theorem zr_116_9 : zSnd 116 9 (o_getf 6 6 12) := zS_getf (idx := 174) (by decide +kernel) rfl (by decide) rfl (by decide) rfl zin_6 zq_311
theorem zr_116_12 : zSnd 116 12 (o_i2l 13) := zS_i2l (by decide +kernel) rfl
theorem zr_116_13 : zSnd 116 13 (o_ladd 14) := zS_ladd (by decide +kernel) rfl
theorem zr_116_14 : zSnd 116 14 (o_lstore 1 15) := zS_lstore_n (i := 1) (by decide +kernel) rfl rfl (by decide +kernel)
theorem zr_116_15 : zSnd 116 15 (o_const 0 16) := zS_iconst (by decide +kernel) rfl (by decide)
theorem zr_116_16 : zSnd 116 16 (o_istore 3 17) := zS_istore_n (i := 3) (by decide +kernel) rfl rfl (by decide +kernel)
theorem zr_116_17 : zSnd 116 17 (o_iload 3 18) := zS_iload_n (i := 3) (by decide +kernel) rfl rfl
theorem zr_116_18 : zSnd 116 18 (o_const 9 20) := zS_bipush (by decide +kernel) rfl (by decide) (by decide)
theorem zr_116_20 : zSnd 116 20 (o_cgt 42 23) := zS_cgt (by decide +kernel : decode (zmB 116) 20 = .ok (.if_icmp .gt 22, 3)) rfl (by decide)
theorem zr_116_23 : zSnd 116 23 (o_lconst 31 26) := zS_ldc2 (idx := 221) (by decide +kernel) rfl zq_346
theorem zr_116_26 : zSnd 116 26 (o_lload 1 27) := zS_lload_n (i := 1) (by decide +kernel) rfl rfl
theorem zr_116_27 : zSnd 116 27 (o_lmul 28) := zS_lmul (by decide +kernel) rfl
theorem zr_116_28 : zSnd 116 28 (o_aload 0 29) := zS_aload_n (i := 0) (by decide +kernel) rfl rfl
theorem zr_116_29 : zSnd 116 29 (o_iload 3 30) := zS_iload_n (i := 3) (by decide +kernel) rfl rfl
theorem zr_116_30 : zSnd 116 30 (o_callv 6 90 2 2 1 33) := zS_callV (n := 1) (idx := 157) (by decide +kernel) rfl rfl (by decide) rfl zq_293 zq_294 zq_295 (by decide +kernel) zMk_90 (by decide +kernel) (by decide +kernel) (by decide +kernel)
theorem zr_116_33 : zSnd 116 33 (o_i2l 34) := zS_i2l (by decide +kernel) rfl
theorem zr_116_34 : zSnd 116 34 (o_ladd 35) := zS_ladd (by decide +kernel) rfl
theorem zr_116_35 : zSnd 116 35 (o_lstore 1 36) := zS_lstore_n (i := 1) (by decide +kernel) rfl rfl (by decide +kernel)
theorem zr_116_36 : zSnd 116 36 (o_iinc 3 1 39) := zS_iinc (by decide +kernel) rfl (by decide +kernel)
theorem zr_116_39 : zSnd 116 39 (o_goto 17) := zS_goto (by decide +kernel : decode (zmB 116) 39 = .ok (.goto (-22), 3)) (by decide)
theorem zr_116_42 : zSnd 116 42 (o_const 0 43) := zS_iconst (by decide +kernel) rfl (by decide)
theorem zr_116_43 : zSnd 116 43 (o_istore 3 44) := zS_istore_n (i := 3) (by decide +kernel) rfl rfl (by decide +kernel)
theorem zr_116_44 : zSnd 116 44 (o_iload 3 45) := zS_iload_n (i := 3) (by decide +kernel) rfl rfl
theorem zr_116_45 : zSnd 116 45 (o_aload 0 46) := zS_aload_n (i := 0) (by decide +kernel) rfl rfl
theorem zr_116_46 : zSnd 116 46 (o_getf 6 1 49) := zS_getf (idx := 7) (by decide +kernel) rfl (by decide) rfl (by decide) rfl zin_6 zq_180
theorem zr_116_49 : zSnd 116 49 (o_const 1 50) := zS_iconst (by decide +kernel) rfl (by decide)
theorem zr_116_50 : zSnd 116 50 (o_iald 51) := zS_iald (by decide +kernel) rfl
theorem zr_116_51 : zSnd 116 51 (o_cge 142 54) := zS_cge (by decide +kernel : decode (zmB 116) 51 = .ok (.if_icmp .ge 91, 3)) rfl (by decide)
theorem zr_116_54 : zSnd 116 54 (o_const 0 55) := zS_iconst (by decide +kernel) rfl (by decide)
theorem zr_116_55 : zSnd 116 55 (o_istore 4 57) := zS_istore (by decide +kernel) rfl (by decide +kernel)
theorem zr_116_57 : zSnd 116 57 (o_iload 4 59) := zS_iload (by decide +kernel) rfl
theorem zr_116_59 : zSnd 116 59 (o_const 5 60) := zS_iconst (by decide +kernel) rfl (by decide)
theorem zr_116_60 : zSnd 116 60 (o_cgt 84 63) := zS_cgt (by decide +kernel : decode (zmB 116) 60 = .ok (.if_icmp .gt 24, 3)) rfl (by decide)
theorem zr_116_63 : zSnd 116 63 (o_lconst 31 66) := zS_ldc2 (idx := 221) (by decide +kernel) rfl zq_346
theorem zr_116_66 : zSnd 116 66 (o_lload 1 67) := zS_lload_n (i := 1) (by decide +kernel) rfl rfl
theorem zr_116_67 : zSnd 116 67 (o_lmul 68) := zS_lmul (by decide +kernel) rfl
theorem zr_116_68 : zSnd 116 68 (o_aload 0 69) := zS_aload_n (i := 0) (by decide +kernel) rfl rfl
theorem zr_116_69 : zSnd 116 69 (o_iload 3 70) := zS_iload_n (i := 3) (by decide +kernel) rfl rfl
theorem zr_116_70 : zSnd 116 70 (o_iload 4 72) := zS_iload (by decide +kernel) rfl
theorem zr_116_72 : zSnd 116 72 (o_callv 6 81 3 6 1 75) := zS_callV (n := 2) (idx := 138) (by decide +kernel) rfl rfl (by decide) rfl zq_275 zq_276 zq_277 (by decide +kernel) zMk_81 (by decide +kernel) (by decide +kernel) (by decide +kernel)
theorem zr_116_75 : zSnd 116 75 (o_i2l 76) := zS_i2l (by decide +kernel) rfl
theorem zr_116_76 : zSnd 116 76 (o_ladd 77) := zS_ladd (by decide +kernel) rfl
theorem zr_116_77 : zSnd 116 77 (o_lstore 1 78) := zS_lstore_n (i := 1) (by decide +kernel) rfl rfl (by decide +kernel)
theorem zr_116_78 : zSnd 116 78 (o_iinc 4 1 81) := zS_iinc (by decide +kernel) rfl (by decide +kernel)
theorem zr_116_81 : zSnd 116 81 (o_goto 57) := zS_goto (by decide +kernel : decode (zmB 116) 81 = .ok (.goto (-24), 3)) (by decide)
theorem zr_116_84 : zSnd 116 84 (o_const 0 85) := zS_iconst (by decide +kernel) rfl (by decide)
theorem zr_116_85 : zSnd 116 85 (o_istore 4 87) := zS_istore (by decide +kernel) rfl (by decide +kernel)
theorem zr_116_87 : zSnd 116 87 (o_iload 4 89) := zS_iload (by decide +kernel) rfl
theorem zr_116_89 : zSnd 116 89 (o_aload 0 90) := zS_aload_n (i := 0) (by decide +kernel) rfl rfl
theorem zr_116_90 : zSnd 116 90 (o_iload 3 91) := zS_iload_n (i := 3) (by decide +kernel) rfl rfl
theorem zr_116_91 : zSnd 116 91 (o_const 2 92) := zS_iconst (by decide +kernel) rfl (by decide)
theorem zr_116_92 : zSnd 116 92 (o_callv 6 42 3 3 1 95) := zS_callV (n := 2) (idx := 45) (by decide +kernel) rfl rfl (by decide) rfl zq_190 zq_191 zq_192 (by decide +kernel) zMk_42 (by decide +kernel) (by decide +kernel) (by decide +kernel)
theorem zr_116_95 : zSnd 116 95 (o_cge 136 98) := zS_cge (by decide +kernel : decode (zmB 116) 95 = .ok (.if_icmp .ge 41, 3)) rfl (by decide)
theorem zr_116_98 : zSnd 116 98 (o_const 0 99) := zS_iconst (by decide +kernel) rfl (by decide)
theorem zr_116_99 : zSnd 116 99 (o_istore 5 101) := zS_istore (by decide +kernel) rfl (by decide +kernel)
theorem zr_116_101 : zSnd 116 101 (o_iload 5 103) := zS_iload (by decide +kernel) rfl
theorem zr_116_103 : zSnd 116 103 (o_const 4 104) := zS_iconst (by decide +kernel) rfl (by decide)
theorem zr_116_104 : zSnd 116 104 (o_cgt 130 107) := zS_cgt (by decide +kernel : decode (zmB 116) 104 = .ok (.if_icmp .gt 26, 3)) rfl (by decide)
theorem zr_116_107 : zSnd 116 107 (o_lconst 31 110) := zS_ldc2 (idx := 221) (by decide +kernel) rfl zq_346
theorem zr_116_110 : zSnd 116 110 (o_lload 1 111) := zS_lload_n (i := 1) (by decide +kernel) rfl rfl
theorem zr_116_111 : zSnd 116 111 (o_lmul 112) := zS_lmul (by decide +kernel) rfl
theorem zr_116_112 : zSnd 116 112 (o_aload 0 113) := zS_aload_n (i := 0) (by decide +kernel) rfl rfl
theorem zr_116_113 : zSnd 116 113 (o_iload 3 114) := zS_iload_n (i := 3) (by decide +kernel) rfl rfl
theorem zr_116_114 : zSnd 116 114 (o_iload 4 116) := zS_iload (by decide +kernel) rfl
theorem zr_116_116 : zSnd 116 116 (o_iload 5 118) := zS_iload (by decide +kernel) rfl
theorem zr_116_118 : zSnd 116 118 (o_callv 6 84 4 4 1 121) := zS_callV (n := 3) (idx := 144) (by decide +kernel) rfl rfl (by decide) rfl zq_281 zq_282 zq_283 (by decide +kernel) zMk_84 (by decide +kernel) (by decide +kernel) (by decide +kernel)
theorem zr_116_121 : zSnd 116 121 (o_i2l 122) := zS_i2l (by decide +kernel) rfl
theorem zr_116_122 : zSnd 116 122 (o_ladd 123) := zS_ladd (by decide +kernel) rfl
theorem zr_116_123 : zSnd 116 123 (o_lstore 1 124) := zS_lstore_n (i := 1) (by decide +kernel) rfl rfl (by decide +kernel)
theorem zr_116_124 : zSnd 116 124 (o_iinc 5 1 127) := zS_iinc (by decide +kernel) rfl (by decide +kernel)
theorem zr_116_127 : zSnd 116 127 (o_goto 101) := zS_goto (by decide +kernel : decode (zmB 116) 127 = .ok (.goto (-26), 3)) (by decide)
theorem zr_116_130 : zSnd 116 130 (o_iinc 4 1 133) := zS_iinc (by decide +kernel) rfl (by decide +kernel)
theorem zr_116_133 : zSnd 116 133 (o_goto 87) := zS_goto (by decide +kernel : decode (zmB 116) 133 = .ok (.goto (-46), 3)) (by decide)
theorem zr_116_136 : zSnd 116 136 (o_iinc 3 1 139) := zS_iinc (by decide +kernel) rfl (by decide +kernel)
theorem zr_116_139 : zSnd 116 139 (o_goto 44) := zS_goto (by decide +kernel : decode (zmB 116) 139 = .ok (.goto (-95), 3)) (by decide)
theorem zr_116_142 : zSnd 116 142 (o_const 0 143) := zS_iconst (by decide +kernel) rfl (by decide)
theorem zr_116_143 : zSnd 116 143 (o_istore 3 144) := zS_istore_n (i := 3) (by decide +kernel) rfl rfl (by decide +kernel)
theorem zr_116_144 : zSnd 116 144 (o_iload 3 145) := zS_iload_n (i := 3) (by decide +kernel) rfl rfl
theorem zr_116_145 : zSnd 116 145 (o_aload 0 146) := zS_aload_n (i := 0) (by decide +kernel) rfl rfl
theorem zr_116_146 : zSnd 116 146 (o_getf 6 1 149) := zS_getf (idx := 7) (by decide +kernel) rfl (by decide) rfl (by decide) rfl zin_6 zq_180
theorem zr_116_149 : zSnd 116 149 (o_const 2 150) := zS_iconst (by decide +kernel) rfl (by decide)
theorem zr_116_150 : zSnd 116 150 (o_iald 151) := zS_iald (by decide +kernel) rfl
theorem zr_116_151 : zSnd 116 151 (o_cge 190 154) := zS_cge (by decide +kernel : decode (zmB 116) 151 = .ok (.if_icmp .ge 39, 3)) rfl (by decide)
theorem zr_116_154 : zSnd 116 154 (o_const 0 155) := zS_iconst (by decide +kernel) rfl (by decide)
theorem zr_116_155 : zSnd 116 155 (o_istore 4 157) := zS_istore (by decide +kernel) rfl (by decide +kernel)
theorem zr_116_157 : zSnd 116 157 (o_iload 4 159) := zS_iload (by decide +kernel) rfl
theorem zr_116_159 : zSnd 116 159 (o_const 2 160) := zS_iconst (by decide +kernel) rfl (by decide)
theorem zr_116_160 : zSnd 116 160 (o_cgt 184 163) := zS_cgt (by decide +kernel : decode (zmB 116) 160 = .ok (.if_icmp .gt 24, 3)) rfl (by decide)
theorem zr_116_163 : zSnd 116 163 (o_lconst 31 166) := zS_ldc2 (idx := 221) (by decide +kernel) rfl zq_346
theorem zr_116_166 : zSnd 116 166 (o_lload 1 167) := zS_lload_n (i := 1) (by decide +kernel) rfl rfl
theorem zr_116_167 : zSnd 116 167 (o_lmul 168) := zS_lmul (by decide +kernel) rfl
theorem zr_116_168 : zSnd 116 168 (o_aload 0 169) := zS_aload_n (i := 0) (by decide +kernel) rfl rfl
theorem zr_116_169 : zSnd 116 169 (o_iload 3 170) := zS_iload_n (i := 3) (by decide +kernel) rfl rfl
theorem zr_116_170 : zSnd 116 170 (o_iload 4 172) := zS_iload (by decide +kernel) rfl
theorem zr_116_172 : zSnd 116 172 (o_callv 6 46 3 3 1 175) := zS_callV (n := 2) (idx := 76) (by decide +kernel) rfl rfl (by decide) rfl zq_220 zq_221 zq_222 (by decide +kernel) zMk_46 (by decide +kernel) (by decide +kernel) (by decide +kernel)
theorem zr_116_175 : zSnd 116 175 (o_i2l 176) := zS_i2l (by decide +kernel) rfl
theorem zr_116_176 : zSnd 116 176 (o_ladd 177) := zS_ladd (by decide +kernel) rfl
theorem zr_116_177 : zSnd 116 177 (o_lstore 1 178) := zS_lstore_n (i := 1) (by decide +kernel) rfl rfl (by decide +kernel)
theorem zr_116_178 : zSnd 116 178 (o_iinc 4 1 181) := zS_iinc (by decide +kernel) rfl (by decide +kernel)
theorem zr_116_181 : zSnd 116 181 (o_goto 157) := zS_goto (by decide +kernel : decode (zmB 116) 181 = .ok (.goto (-24), 3)) (by decide)
theorem zr_116_184 : zSnd 116 184 (o_iinc 3 1 187) := zS_iinc (by decide +kernel) rfl (by decide +kernel)
theorem zr_116_187 : zSnd 116 187 (o_goto 144) := zS_goto (by decide +kernel : decode (zmB 116) 187 = .ok (.goto (-43), 3)) (by decide)
theorem zr_116_190 : zSnd 116 190 (o_lconst 31 193) := zS_ldc2 (idx := 221) (by decide +kernel) rfl zq_346
theorem zr_116_193 : zSnd 116 193 (o_lload 1 194) := zS_lload_n (i := 1) (by decide +kernel) rfl rfl
theorem zr_116_194 : zSnd 116 194 (o_lmul 195) := zS_lmul (by decide +kernel) rfl
theorem zr_116_195 : zSnd 116 195 (o_aload 0 196) := zS_aload_n (i := 0) (by decide +kernel) rfl rfl
theorem zr_116_196 : zSnd 116 196 (o_callv 6 92 1 5 1 199) := zS_callV (n := 0) (idx := 160) (by decide +kernel) rfl rfl (by decide) rfl zq_296 zq_297 zq_298 (by decide +kernel) zMk_92 (by decide +kernel) (by decide +kernel) (by decide +kernel)
theorem zr_116_199 : zSnd 116 199 (o_i2l 200) := zS_i2l (by decide +kernel) rfl
theorem zr_116_200 : zSnd 116 200 (o_ladd 201) := zS_ladd (by decide +kernel) rfl
theorem zr_116_201 : zSnd 116 201 (o_lstore 1 202) := zS_lstore_n (i := 1) (by decide +kernel) rfl rfl (by decide +kernel)
theorem zr_116_202 : zSnd 116 202 (o_lconst 31 205) := zS_ldc2 (idx := 221) (by decide +kernel) rfl zq_346
theorem zr_116_205 : zSnd 116 205 (o_lload 1 206) := zS_lload_n (i := 1) (by decide +kernel) rfl rfl
theorem zr_116_206 : zSnd 116 206 (o_lmul 207) := zS_lmul (by decide +kernel) rfl
theorem zr_116_207 : zSnd 116 207 (o_aload 0 208) := zS_aload_n (i := 0) (by decide +kernel) rfl rfl
theorem zr_116_208 : zSnd 116 208 (o_callv 6 99 1 2 1 211) := zS_callV (n := 0) (idx := 169) (by decide +kernel) rfl rfl (by decide) rfl zq_306 zq_307 zq_308 (by decide +kernel) zMk_99 (by decide +kernel) (by decide +kernel) (by decide +kernel)
theorem zr_116_211 : zSnd 116 211 (o_i2l 212) := zS_i2l (by decide +kernel) rfl
theorem zr_116_212 : zSnd 116 212 (o_ladd 213) := zS_ladd (by decide +kernel) rfl
theorem zr_116_213 : zSnd 116 213 (o_lstore 1 214) := zS_lstore_n (i := 1) (by decide +kernel) rfl rfl (by decide +kernel)
theorem zr_116_214 : zSnd 116 214 (o_lconst 31 217) := zS_ldc2 (idx := 221) (by decide +kernel) rfl zq_346
theorem zr_116_217 : zSnd 116 217 (o_lload 1 218) := zS_lload_n (i := 1) (by decide +kernel) rfl rfl
theorem zr_116_218 : zSnd 116 218 (o_lmul 219) := zS_lmul (by decide +kernel) rfl
theorem zr_116_219 : zSnd 116 219 (o_aload 0 220) := zS_aload_n (i := 0) (by decide +kernel) rfl rfl
theorem zr_116_220 : zSnd 116 220 (o_getf 6 4 223) := zS_getf (idx := 26) (by decide +kernel) rfl (by decide) rfl (by decide) rfl zin_6 zq_178
theorem zr_116_223 : zSnd 116 223 (o_i2l 224) := zS_i2l (by decide +kernel) rfl
theorem zr_116_224 : zSnd 116 224 (o_ladd 225) := zS_ladd (by decide +kernel) rfl
theorem zr_116_225 : zSnd 116 225 (o_lret) := zS_lret (by decide +kernel) (by decide +kernel)
theorem zT_116 (pc : Nat) : zSnd 116 pc (zc_116 pc) := by
  unfold zc_116
  exact (zSn_nd (zSn_nd (zSn_nd (zSn_nd (zSn_nd (zSn_nd (zSn_nd (zSn_lf zr_116_0) (zSn_lf zr_116_1)) (zSn_nd (zSn_lf zr_116_2) (zSn_lf zr_116_5))) (zSn_nd (zSn_nd (zSn_lf zr_116_8) (zSn_lf zr_116_9)) (zSn_nd (zSn_lf zr_116_12) (zSn_lf zr_116_13)))) (zSn_nd (zSn_nd (zSn_nd (zSn_lf zr_116_14) (zSn_lf zr_116_15)) (zSn_nd (zSn_lf zr_116_16) (zSn_lf zr_116_17))) (zSn_nd (zSn_nd (zSn_lf zr_116_18) (zSn_lf zr_116_20)) (zSn_nd (zSn_lf zr_116_23) (zSn_lf zr_116_26))))) (zSn_nd (zSn_nd (zSn_nd (zSn_nd (zSn_lf zr_116_27) (zSn_lf zr_116_28)) (zSn_nd (zSn_lf zr_116_29) (zSn_lf zr_116_30))) (zSn_nd (zSn_nd (zSn_lf zr_116_33) (zSn_lf zr_116_34)) (zSn_nd (zSn_lf zr_116_35) (zSn_lf zr_116_36)))) (zSn_nd (zSn_nd (zSn_nd (zSn_lf zr_116_39) (zSn_lf zr_116_42)) (zSn_nd (zSn_lf zr_116_43) (zSn_lf zr_116_44))) (zSn_nd (zSn_nd (zSn_lf zr_116_45) (zSn_lf zr_116_46)) (zSn_nd (zSn_lf zr_116_49) (zSn_lf zr_116_50)))))) (zSn_nd (zSn_nd (zSn_nd (zSn_nd (zSn_nd (zSn_lf zr_116_51) (zSn_lf zr_116_54)) (zSn_nd (zSn_lf zr_116_55) (zSn_lf zr_116_57))) (zSn_nd (zSn_nd (zSn_lf zr_116_59) (zSn_lf zr_116_60)) (zSn_nd (zSn_lf zr_116_63) (zSn_lf zr_116_66)))) (zSn_nd (zSn_nd (zSn_nd (zSn_lf zr_116_67) (zSn_lf zr_116_68)) (zSn_nd (zSn_lf zr_116_69) (zSn_lf zr_116_70))) (zSn_nd (zSn_nd (zSn_lf zr_116_72) (zSn_lf zr_116_75)) (zSn_nd (zSn_lf zr_116_76) (zSn_lf zr_116_77))))) (zSn_nd (zSn_nd (zSn_nd (zSn_nd (zSn_lf zr_116_78) (zSn_lf zr_116_81)) (zSn_nd (zSn_lf zr_116_84) (zSn_lf zr_116_85))) (zSn_nd (zSn_nd (zSn_lf zr_116_87) (zSn_lf zr_116_89)) (zSn_nd (zSn_lf zr_116_90) (zSn_lf zr_116_91)))) (zSn_nd (zSn_nd (zSn_nd (zSn_lf zr_116_92) (zSn_lf zr_116_95)) (zSn_nd (zSn_lf zr_116_98) (zSn_lf zr_116_99))) (zSn_nd (zSn_nd (zSn_lf zr_116_101) (zSn_lf zr_116_103)) (zSn_nd (zSn_lf zr_116_104) (zSn_nd (zSn_lf zr_116_107) (zSn_lf zr_116_110)))))))) (zSn_nd (zSn_nd (zSn_nd (zSn_nd (zSn_nd (zSn_nd (zSn_lf zr_116_111) (zSn_lf zr_116_112)) (zSn_nd (zSn_lf zr_116_113) (zSn_lf zr_116_114))) (zSn_nd (zSn_nd (zSn_lf zr_116_116) (zSn_lf zr_116_118)) (zSn_nd (zSn_lf zr_116_121) (zSn_lf zr_116_122)))) (zSn_nd (zSn_nd (zSn_nd (zSn_lf zr_116_123) (zSn_lf zr_116_124)) (zSn_nd (zSn_lf zr_116_127) (zSn_lf zr_116_130))) (zSn_nd (zSn_nd (zSn_lf zr_116_133) (zSn_lf zr_116_136)) (zSn_nd (zSn_lf zr_116_139) (zSn_lf zr_116_142))))) (zSn_nd (zSn_nd (zSn_nd (zSn_nd (zSn_lf zr_116_143) (zSn_lf zr_116_144)) (zSn_nd (zSn_lf zr_116_145) (zSn_lf zr_116_146))) (zSn_nd (zSn_nd (zSn_lf zr_116_149) (zSn_lf zr_116_150)) (zSn_nd (zSn_lf zr_116_151) (zSn_lf zr_116_154)))) (zSn_nd (zSn_nd (zSn_nd (zSn_lf zr_116_155) (zSn_lf zr_116_157)) (zSn_nd (zSn_lf zr_116_159) (zSn_lf zr_116_160))) (zSn_nd (zSn_nd (zSn_lf zr_116_163) (zSn_lf zr_116_166)) (zSn_nd (zSn_lf zr_116_167) (zSn_nd (zSn_lf zr_116_168) (zSn_lf zr_116_169))))))) (zSn_nd (zSn_nd (zSn_nd (zSn_nd (zSn_nd (zSn_lf zr_116_170) (zSn_lf zr_116_172)) (zSn_nd (zSn_lf zr_116_175) (zSn_lf zr_116_176))) (zSn_nd (zSn_nd (zSn_lf zr_116_177) (zSn_lf zr_116_178)) (zSn_nd (zSn_lf zr_116_181) (zSn_lf zr_116_184)))) (zSn_nd (zSn_nd (zSn_nd (zSn_lf zr_116_187) (zSn_lf zr_116_190)) (zSn_nd (zSn_lf zr_116_193) (zSn_lf zr_116_194))) (zSn_nd (zSn_nd (zSn_lf zr_116_195) (zSn_lf zr_116_196)) (zSn_nd (zSn_lf zr_116_199) (zSn_lf zr_116_200))))) (zSn_nd (zSn_nd (zSn_nd (zSn_nd (zSn_lf zr_116_201) (zSn_lf zr_116_202)) (zSn_nd (zSn_lf zr_116_205) (zSn_lf zr_116_206))) (zSn_nd (zSn_nd (zSn_lf zr_116_207) (zSn_lf zr_116_208)) (zSn_nd (zSn_lf zr_116_211) (zSn_lf zr_116_212)))) (zSn_nd (zSn_nd (zSn_nd (zSn_lf zr_116_213) (zSn_lf zr_116_214)) (zSn_nd (zSn_lf zr_116_217) (zSn_lf zr_116_218))) (zSn_nd (zSn_nd (zSn_lf zr_116_219) (zSn_lf zr_116_220)) (zSn_nd (zSn_lf zr_116_223) (zSn_nd (zSn_lf zr_116_224) (zSn_lf zr_116_225)))))))))
theorem zr_117_0 : zSnd 117 0 (o_aload 0 1) := zS_aload_n (i := 0) (by decide +kernel) rfl rfl
theorem zr_117_1 : zSnd 117 1 (o_getf 1 0 4) := zS_getf (idx := 11) (by decide +kernel) rfl (by decide) rfl (by decide) rfl zin_1 zq_347
theorem zr_117_4 : zSnd 117 4 (o_aload 0 5) := zS_aload_n (i := 0) (by decide +kernel) rfl rfl
theorem zr_117_5 : zSnd 117 5 (o_getf 1 1 8) := zS_getf (idx := 18) (by decide +kernel) rfl (by decide) rfl (by decide) rfl zin_1 zq_348
theorem zr_117_8 : zSnd 117 8 (o_aald 9) := zS_aald (by decide +kernel) rfl
theorem zr_117_9 : zSnd 117 9 (o_aload 1 10) := zS_aload_n (i := 1) (by decide +kernel) rfl rfl
theorem zr_117_10 : zSnd 117 10 (o_callv 4 145 2 2 0 13) := zS_callVN (n := 1) (idx := 22) (by decide +kernel) rfl rfl (by decide) rfl zq_349 zq_350 zq_351 (by decide +kernel) zMk_145 (by decide +kernel) (by decide +kernel) (by decide +kernel)
theorem zr_117_13 : zSnd 117 13 (o_aload 0 14) := zS_aload_n (i := 0) (by decide +kernel) rfl rfl
theorem zr_117_14 : zSnd 117 14 (o_aload 0 15) := zS_aload_n (i := 0) (by decide +kernel) rfl rfl
theorem zr_117_15 : zSnd 117 15 (o_getf 1 1 18) := zS_getf (idx := 18) (by decide +kernel) rfl (by decide) rfl (by decide) rfl zin_1 zq_348
theorem zr_117_18 : zSnd 117 18 (o_const 1 19) := zS_iconst (by decide +kernel) rfl (by decide)
theorem zr_117_19 : zSnd 117 19 (o_iadd 20) := zS_iadd (by decide +kernel) rfl
theorem zr_117_20 : zSnd 117 20 (o_const 4 21) := zS_iconst (by decide +kernel) rfl (by decide)
theorem zr_117_21 : zSnd 117 21 (o_cge 33 24) := zS_cge (by decide +kernel : decode (zmB 117) 21 = .ok (.if_icmp .ge 12, 3)) rfl (by decide)
theorem zr_117_24 : zSnd 117 24 (o_aload 0 25) := zS_aload_n (i := 0) (by decide +kernel) rfl rfl
theorem zr_117_25 : zSnd 117 25 (o_getf 1 1 28) := zS_getf (idx := 18) (by decide +kernel) rfl (by decide) rfl (by decide) rfl zin_1 zq_348
theorem zr_117_28 : zSnd 117 28 (o_const 1 29) := zS_iconst (by decide +kernel) rfl (by decide)
theorem zr_117_29 : zSnd 117 29 (o_iadd 30) := zS_iadd (by decide +kernel) rfl
theorem zr_117_30 : zSnd 117 30 (o_goto 34) := zS_goto (by decide +kernel : decode (zmB 117) 30 = .ok (.goto 4, 3)) (by decide)
theorem zr_117_33 : zSnd 117 33 (o_const 0 34) := zS_iconst (by decide +kernel) rfl (by decide)
theorem zr_117_34 : zSnd 117 34 (o_putf 1 1 37) := zS_putf (idx := 18) (by decide +kernel) rfl (by decide) rfl (by decide) rfl zin_1 tyX0_ok nmX0 rfl (by decide +kernel) zq_348
theorem zr_117_37 : zSnd 117 37 (o_aload 0 38) := zS_aload_n (i := 0) (by decide +kernel) rfl rfl
theorem zr_117_38 : zSnd 117 38 (o_aload 0 39) := zS_aload_n (i := 0) (by decide +kernel) rfl rfl
theorem zr_117_39 : zSnd 117 39 (o_getf 1 2 42) := zS_getf (idx := 26) (by decide +kernel) rfl (by decide) rfl (by decide) rfl zin_1 zq_352
theorem zr_117_42 : zSnd 117 42 (o_const 1 43) := zS_iconst (by decide +kernel) rfl (by decide)
theorem zr_117_43 : zSnd 117 43 (o_iadd 44) := zS_iadd (by decide +kernel) rfl
theorem zr_117_44 : zSnd 117 44 (o_const 4 45) := zS_iconst (by decide +kernel) rfl (by decide)
theorem zr_117_45 : zSnd 117 45 (o_min 48) := zS_min (idx := 29) (by decide +kernel) rfl zq_353 zq_114 zq_115 zq_116 (by decide +kernel)
theorem zr_117_48 : zSnd 117 48 (o_putf 1 2 51) := zS_putf (idx := 26) (by decide +kernel) rfl (by decide) rfl (by decide) rfl zin_1 tyX0_ok nmX0 rfl (by decide +kernel) zq_352
theorem zr_117_51 : zSnd 117 51 (o_ret) := zS_ret (by decide +kernel) (by decide +kernel)
theorem zT_117 (pc : Nat) : zSnd 117 pc (zc_117 pc) := by
  unfold zc_117
  exact (zSn_nd (zSn_nd (zSn_nd (zSn_nd (zSn_lf zr_117_0) (zSn_nd (zSn_lf zr_117_1) (zSn_lf zr_117_4))) (zSn_nd (zSn_nd (zSn_lf zr_117_5) (zSn_lf zr_117_8)) (zSn_nd (zSn_lf zr_117_9) (zSn_lf zr_117_10)))) (zSn_nd (zSn_nd (zSn_nd (zSn_lf zr_117_13) (zSn_lf zr_117_14)) (zSn_nd (zSn_lf zr_117_15) (zSn_lf zr_117_18))) (zSn_nd (zSn_nd (zSn_lf zr_117_19) (zSn_lf zr_117_20)) (zSn_nd (zSn_lf zr_117_21) (zSn_lf zr_117_24))))) (zSn_nd (zSn_nd (zSn_nd (zSn_lf zr_117_25) (zSn_nd (zSn_lf zr_117_28) (zSn_lf zr_117_29))) (zSn_nd (zSn_nd (zSn_lf zr_117_30) (zSn_lf zr_117_33)) (zSn_nd (zSn_lf zr_117_34) (zSn_lf zr_117_37)))) (zSn_nd (zSn_nd (zSn_nd (zSn_lf zr_117_38) (zSn_lf zr_117_39)) (zSn_nd (zSn_lf zr_117_42) (zSn_lf zr_117_43))) (zSn_nd (zSn_nd (zSn_lf zr_117_44) (zSn_lf zr_117_45)) (zSn_nd (zSn_lf zr_117_48) (zSn_lf zr_117_51))))))
theorem zr_118_0 : zSnd 118 0 (o_aload 0 1) := zS_aload_n (i := 0) (by decide +kernel) rfl rfl
theorem zr_118_1 : zSnd 118 1 (o_aload 0 2) := zS_aload_n (i := 0) (by decide +kernel) rfl rfl
theorem zr_118_2 : zSnd 118 2 (o_getf 1 1 5) := zS_getf (idx := 18) (by decide +kernel) rfl (by decide) rfl (by decide) rfl zin_1 zq_348
theorem zr_118_5 : zSnd 118 5 (o_ifle 17 8) := zS_ifle (by decide +kernel : decode (zmB 118) 5 = .ok (.ifCond .le 12, 3)) rfl (by decide)
theorem zr_118_8 : zSnd 118 8 (o_aload 0 9) := zS_aload_n (i := 0) (by decide +kernel) rfl rfl
theorem zr_118_9 : zSnd 118 9 (o_getf 1 1 12) := zS_getf (idx := 18) (by decide +kernel) rfl (by decide) rfl (by decide) rfl zin_1 zq_348
theorem zr_118_12 : zSnd 118 12 (o_const 1 13) := zS_iconst (by decide +kernel) rfl (by decide)
theorem zr_118_13 : zSnd 118 13 (o_isub 14) := zS_isub (by decide +kernel) rfl
theorem zr_118_14 : zSnd 118 14 (o_goto 18) := zS_goto (by decide +kernel : decode (zmB 118) 14 = .ok (.goto 4, 3)) (by decide)
theorem zr_118_17 : zSnd 118 17 (o_const 3 18) := zS_iconst (by decide +kernel) rfl (by decide)
theorem zr_118_18 : zSnd 118 18 (o_putf 1 1 21) := zS_putf (idx := 18) (by decide +kernel) rfl (by decide) rfl (by decide) rfl zin_1 tyX0_ok nmX0 rfl (by decide +kernel) zq_348
theorem zr_118_21 : zSnd 118 21 (o_aload 0 22) := zS_aload_n (i := 0) (by decide +kernel) rfl rfl
theorem zr_118_22 : zSnd 118 22 (o_aload 0 23) := zS_aload_n (i := 0) (by decide +kernel) rfl rfl
theorem zr_118_23 : zSnd 118 23 (o_getf 1 2 26) := zS_getf (idx := 26) (by decide +kernel) rfl (by decide) rfl (by decide) rfl zin_1 zq_352
theorem zr_118_26 : zSnd 118 26 (o_const 1 27) := zS_iconst (by decide +kernel) rfl (by decide)
theorem zr_118_27 : zSnd 118 27 (o_isub 28) := zS_isub (by decide +kernel) rfl
theorem zr_118_28 : zSnd 118 28 (o_const 0 29) := zS_iconst (by decide +kernel) rfl (by decide)
theorem zr_118_29 : zSnd 118 29 (o_max 32) := zS_max (idx := 35) (by decide +kernel) rfl zq_354 zq_355 zq_115 zq_356 (by decide +kernel)
theorem zr_118_32 : zSnd 118 32 (o_putf 1 2 35) := zS_putf (idx := 26) (by decide +kernel) rfl (by decide) rfl (by decide) rfl zin_1 tyX0_ok nmX0 rfl (by decide +kernel) zq_352
theorem zr_118_35 : zSnd 118 35 (o_aload 1 36) := zS_aload_n (i := 1) (by decide +kernel) rfl rfl
theorem zr_118_36 : zSnd 118 36 (o_aload 0 37) := zS_aload_n (i := 0) (by decide +kernel) rfl rfl
theorem zr_118_37 : zSnd 118 37 (o_getf 1 0 40) := zS_getf (idx := 11) (by decide +kernel) rfl (by decide) rfl (by decide) rfl zin_1 zq_347
theorem zr_118_40 : zSnd 118 40 (o_aload 0 41) := zS_aload_n (i := 0) (by decide +kernel) rfl rfl
theorem zr_118_41 : zSnd 118 41 (o_getf 1 1 44) := zS_getf (idx := 18) (by decide +kernel) rfl (by decide) rfl (by decide) rfl zin_1 zq_348
theorem zr_118_44 : zSnd 118 44 (o_aald 45) := zS_aald (by decide +kernel) rfl
theorem zr_118_45 : zSnd 118 45 (o_callv 4 145 2 2 0 48) := zS_callVN (n := 1) (idx := 22) (by decide +kernel) rfl rfl (by decide) rfl zq_349 zq_350 zq_351 (by decide +kernel) zMk_145 (by decide +kernel) (by decide +kernel) (by decide +kernel)
theorem zr_118_48 : zSnd 118 48 (o_ret) := zS_ret (by decide +kernel) (by decide +kernel)
theorem zT_118 (pc : Nat) : zSnd 118 pc (zc_118 pc) := by
  unfold zc_118
  exact (zSn_nd (zSn_nd (zSn_nd (zSn_nd (zSn_lf zr_118_0) (zSn_nd (zSn_lf zr_118_1) (zSn_lf zr_118_2))) (zSn_nd (zSn_lf zr_118_5) (zSn_nd (zSn_lf zr_118_8) (zSn_lf zr_118_9)))) (zSn_nd (zSn_nd (zSn_lf zr_118_12) (zSn_nd (zSn_lf zr_118_13) (zSn_lf zr_118_14))) (zSn_nd (zSn_nd (zSn_lf zr_118_17) (zSn_lf zr_118_18)) (zSn_nd (zSn_lf zr_118_21) (zSn_lf zr_118_22))))) (zSn_nd (zSn_nd (zSn_nd (zSn_lf zr_118_23) (zSn_nd (zSn_lf zr_118_26) (zSn_lf zr_118_27))) (zSn_nd (zSn_nd (zSn_lf zr_118_28) (zSn_lf zr_118_29)) (zSn_nd (zSn_lf zr_118_32) (zSn_lf zr_118_35)))) (zSn_nd (zSn_nd (zSn_lf zr_118_36) (zSn_nd (zSn_lf zr_118_37) (zSn_lf zr_118_40))) (zSn_nd (zSn_nd (zSn_lf zr_118_41) (zSn_lf zr_118_44)) (zSn_nd (zSn_lf zr_118_45) (zSn_lf zr_118_48))))))
theorem zr_119_0 : zSnd 119 0 (o_aload 0 1) := zS_aload_n (i := 0) (by decide +kernel) rfl rfl
theorem zr_119_1 : zSnd 119 1 (o_const 0 2) := zS_iconst (by decide +kernel) rfl (by decide)
theorem zr_119_2 : zSnd 119 2 (o_putf 2 2 5) := zS_putf (idx := 19) (by decide +kernel) rfl (by decide) rfl (by decide) rfl zin_2 tyX1_ok nmX1 rfl (by decide +kernel) zq_357
theorem zr_119_5 : zSnd 119 5 (o_aload 0 6) := zS_aload_n (i := 0) (by decide +kernel) rfl rfl
theorem zr_119_6 : zSnd 119 6 (o_const (-1) 7) := zS_iconst (by decide +kernel) rfl (by decide)
theorem zr_119_7 : zSnd 119 7 (o_putf 2 3 10) := zS_putf (idx := 15) (by decide +kernel) rfl (by decide) rfl (by decide) rfl zin_2 tyX1_ok nmX1 rfl (by decide +kernel) zq_358
theorem zr_119_10 : zSnd 119 10 (o_ret) := zS_ret (by decide +kernel) (by decide +kernel)
theorem zT_119 (pc : Nat) : zSnd 119 pc (zc_119 pc) := by
  unfold zc_119
  exact (zSn_nd (zSn_nd (zSn_lf zr_119_0) (zSn_nd (zSn_lf zr_119_1) (zSn_lf zr_119_2))) (zSn_nd (zSn_nd (zSn_lf zr_119_5) (zSn_lf zr_119_6)) (zSn_nd (zSn_lf zr_119_7) (zSn_lf zr_119_10))))
theorem zr_120_0 : zSnd 120 0 (o_aload 0 1) := zS_aload_n (i := 0) (by decide +kernel) rfl rfl
theorem zr_120_1 : zSnd 120 1 (o_callv 2 119 1 1 0 4) := zS_callV (n := 0) (idx := 22) (by decide +kernel) rfl rfl (by decide) rfl zq_359 zq_127 zq_128 (by decide +kernel) zMk_119 (by decide +kernel) (by decide +kernel) (by decide +kernel)
theorem zr_120_4 : zSnd 120 4 (o_const 0 5) := zS_iconst (by decide +kernel) rfl (by decide)
theorem zr_120_5 : zSnd 120 5 (o_istore 1 6) := zS_istore_n (i := 1) (by decide +kernel) rfl rfl (by decide +kernel)
theorem zr_120_6 : zSnd 120 6 (o_iload 1 7) := zS_iload_n (i := 1) (by decide +kernel) rfl rfl
theorem zr_120_7 : zSnd 120 7 (o_const 100 9) := zS_bipush (by decide +kernel) rfl (by decide) (by decide)
theorem zr_120_9 : zSnd 120 9 (o_cge 30 12) := zS_cge (by decide +kernel : decode (zmB 120) 9 = .ok (.if_icmp .ge 21, 3)) rfl (by decide)
theorem zr_120_12 : zSnd 120 12 (o_aload 0 13) := zS_aload_n (i := 0) (by decide +kernel) rfl rfl
theorem zr_120_13 : zSnd 120 13 (o_callv 2 121 1 1 1 16) := zS_callV (n := 0) (idx := 25) (by decide +kernel) rfl rfl (by decide) rfl zq_360 zq_130 zq_131 (by decide +kernel) zMk_121 (by decide +kernel) (by decide +kernel) (by decide +kernel)
theorem zr_120_16 : zSnd 120 16 (o_ifne 24 19) := zS_ifne (by decide +kernel : decode (zmB 120) 16 = .ok (.ifCond .ne 8, 3)) rfl (by decide)
theorem zr_120_19 : zSnd 120 19 (o_aload 0 20) := zS_aload_n (i := 0) (by decide +kernel) rfl rfl
theorem zr_120_20 : zSnd 120 20 (o_getf 2 3 23) := zS_getf (idx := 15) (by decide +kernel) rfl (by decide) rfl (by decide) rfl zin_2 zq_358
theorem zr_120_23 : zSnd 120 23 (o_iret) := zS_iret (by decide +kernel) (by decide +kernel)
theorem zr_120_24 : zSnd 120 24 (o_iinc 1 1 27) := zS_iinc (by decide +kernel) rfl (by decide +kernel)
theorem zr_120_27 : zSnd 120 27 (o_goto 6) := zS_goto (by decide +kernel : decode (zmB 120) 27 = .ok (.goto (-21), 3)) (by decide)
theorem zr_120_30 : zSnd 120 30 (o_aload 0 31) := zS_aload_n (i := 0) (by decide +kernel) rfl rfl
theorem zr_120_31 : zSnd 120 31 (o_getf 2 3 34) := zS_getf (idx := 15) (by decide +kernel) rfl (by decide) rfl (by decide) rfl zin_2 zq_358
theorem zr_120_34 : zSnd 120 34 (o_iret) := zS_iret (by decide +kernel) (by decide +kernel)
theorem zT_120 (pc : Nat) : zSnd 120 pc (zc_120 pc) := by
  unfold zc_120
  exact (zSn_nd (zSn_nd (zSn_nd (zSn_nd (zSn_lf zr_120_0) (zSn_lf zr_120_1)) (zSn_nd (zSn_lf zr_120_4) (zSn_lf zr_120_5))) (zSn_nd (zSn_nd (zSn_lf zr_120_6) (zSn_lf zr_120_7)) (zSn_nd (zSn_lf zr_120_9) (zSn_nd (zSn_lf zr_120_12) (zSn_lf zr_120_13))))) (zSn_nd (zSn_nd (zSn_nd (zSn_lf zr_120_16) (zSn_lf zr_120_19)) (zSn_nd (zSn_lf zr_120_20) (zSn_lf zr_120_23))) (zSn_nd (zSn_nd (zSn_lf zr_120_24) (zSn_lf zr_120_27)) (zSn_nd (zSn_lf zr_120_30) (zSn_nd (zSn_lf zr_120_31) (zSn_lf zr_120_34))))))
theorem zr_121_0 : zSnd 121 0 (o_aload 0 1) := zS_aload_n (i := 0) (by decide +kernel) rfl rfl
theorem zr_121_1 : zSnd 121 1 (o_getf 2 3 4) := zS_getf (idx := 15) (by decide +kernel) rfl (by decide) rfl (by decide) rfl zin_2 zq_358
theorem zr_121_4 : zSnd 121 4 (o_const (-1) 5) := zS_iconst (by decide +kernel) rfl (by decide)
theorem zr_121_5 : zSnd 121 5 (o_cne 19 8) := zS_cne (by decide +kernel : decode (zmB 121) 5 = .ok (.if_icmp .ne 14, 3)) rfl (by decide)
theorem zr_121_8 : zSnd 121 8 (o_aload 0 9) := zS_aload_n (i := 0) (by decide +kernel) rfl rfl
theorem zr_121_9 : zSnd 121 9 (o_getf 2 2 12) := zS_getf (idx := 19) (by decide +kernel) rfl (by decide) rfl (by decide) rfl zin_2 zq_357
theorem zr_121_12 : zSnd 121 12 (o_aload 0 13) := zS_aload_n (i := 0) (by decide +kernel) rfl rfl
theorem zr_121_13 : zSnd 121 13 (o_getf 2 1 16) := zS_getf (idx := 29) (by decide +kernel) rfl (by decide) rfl (by decide) rfl zin_2 zq_361
theorem zr_121_16 : zSnd 121 16 (o_clt 21 19) := zS_clt (by decide +kernel : decode (zmB 121) 16 = .ok (.if_icmp .lt 5, 3)) rfl (by decide)
theorem zr_121_19 : zSnd 121 19 (o_const 0 20) := zS_iconst (by decide +kernel) rfl (by decide)
theorem zr_121_20 : zSnd 121 20 (o_zret) := zS_zret (by decide +kernel) (by decide +kernel)
theorem zr_121_21 : zSnd 121 21 (o_aload 0 22) := zS_aload_n (i := 0) (by decide +kernel) rfl rfl
theorem zr_121_22 : zSnd 121 22 (o_aload 0 23) := zS_aload_n (i := 0) (by decide +kernel) rfl rfl
theorem zr_121_23 : zSnd 121 23 (o_callv 2 125 1 1 1 26) := zS_callV (n := 0) (idx := 32) (by decide +kernel) rfl rfl (by decide) rfl zq_362 zq_363 zq_364 (by decide +kernel) zMk_125 (by decide +kernel) (by decide +kernel) (by decide +kernel)
theorem zr_121_26 : zSnd 121 26 (o_putf 2 4 29) := zS_putf (idx := 36) (by decide +kernel) rfl (by decide) rfl (by decide) rfl zin_2 tyX1_ok nmX1 rfl (by decide +kernel) zq_365
theorem zr_121_29 : zSnd 121 29 (o_aload 0 30) := zS_aload_n (i := 0) (by decide +kernel) rfl rfl
theorem zr_121_30 : zSnd 121 30 (o_dup 31) := zS_dup (by decide +kernel) rfl
theorem zr_121_31 : zSnd 121 31 (o_getf 2 2 34) := zS_getf (idx := 19) (by decide +kernel) rfl (by decide) rfl (by decide) rfl zin_2 zq_357
theorem zr_121_34 : zSnd 121 34 (o_const 1 35) := zS_iconst (by decide +kernel) rfl (by decide)
theorem zr_121_35 : zSnd 121 35 (o_iadd 36) := zS_iadd (by decide +kernel) rfl
theorem zr_121_36 : zSnd 121 36 (o_putf 2 2 39) := zS_putf (idx := 19) (by decide +kernel) rfl (by decide) rfl (by decide) rfl zin_2 tyX1_ok nmX1 rfl (by decide +kernel) zq_357
theorem zr_121_39 : zSnd 121 39 (o_aload 0 40) := zS_aload_n (i := 0) (by decide +kernel) rfl rfl
theorem zr_121_40 : zSnd 121 40 (o_getf 2 4 43) := zS_getf (idx := 36) (by decide +kernel) rfl (by decide) rfl (by decide) rfl zin_2 zq_365
theorem zr_121_43 : zSnd 121 43 (o_sw [(100, 98), (106, 84), (111, 91), (112, 105)] 118) := zS_lsw (by decide +kernel : decode (zmB 121) 43 = .ok (.lookupswitch 75 #[(100, 55), (106, 41), (111, 48), (112, 62)], 41)) (by decide) (by intro x; simp only [Op.lookupswitch.offset_cons, Op.lookupswitch.offset_nil, zsw]; (repeat' split) <;> omega)
theorem zr_121_84 : zSnd 121 84 (o_aload 0 85) := zS_aload_n (i := 0) (by decide +kernel) rfl rfl
theorem zr_121_85 : zSnd 121 85 (o_callv 2 122 1 1 0 88) := zS_callV (n := 0) (idx := 39) (by decide +kernel) rfl rfl (by decide) rfl zq_366 zq_367 zq_368 (by decide +kernel) zMk_122 (by decide +kernel) (by decide +kernel) (by decide +kernel)
theorem zr_121_88 : zSnd 121 88 (o_goto 128) := zS_goto (by decide +kernel : decode (zmB 121) 88 = .ok (.goto 40, 3)) (by decide)
theorem zr_121_91 : zSnd 121 91 (o_aload 0 92) := zS_aload_n (i := 0) (by decide +kernel) rfl rfl
theorem zr_121_92 : zSnd 121 92 (o_callv 2 123 1 1 0 95) := zS_callV (n := 0) (idx := 42) (by decide +kernel) rfl rfl (by decide) rfl zq_369 zq_370 zq_371 (by decide +kernel) zMk_123 (by decide +kernel) (by decide +kernel) (by decide +kernel)
theorem zr_121_95 : zSnd 121 95 (o_goto 128) := zS_goto (by decide +kernel : decode (zmB 121) 95 = .ok (.goto 33, 3)) (by decide)
theorem zr_121_98 : zSnd 121 98 (o_aload 0 99) := zS_aload_n (i := 0) (by decide +kernel) rfl rfl
theorem zr_121_99 : zSnd 121 99 (o_callv 2 124 1 1 0 102) := zS_callV (n := 0) (idx := 45) (by decide +kernel) rfl rfl (by decide) rfl zq_372 zq_373 zq_374 (by decide +kernel) zMk_124 (by decide +kernel) (by decide +kernel) (by decide +kernel)
theorem zr_121_102 : zSnd 121 102 (o_goto 128) := zS_goto (by decide +kernel : decode (zmB 121) 102 = .ok (.goto 26, 3)) (by decide)
theorem zr_121_105 : zSnd 121 105 (o_aload 0 106) := zS_aload_n (i := 0) (by decide +kernel) rfl rfl
theorem zr_121_106 : zSnd 121 106 (o_aload 0 107) := zS_aload_n (i := 0) (by decide +kernel) rfl rfl
theorem zr_121_107 : zSnd 121 107 (o_const 0 108) := zS_iconst (by decide +kernel) rfl (by decide)
theorem zr_121_108 : zSnd 121 108 (o_const 3 109) := zS_iconst (by decide +kernel) rfl (by decide)
theorem zr_121_109 : zSnd 121 109 (o_callv 2 128 3 4 1 112) := zS_callV (n := 2) (idx := 48) (by decide +kernel) rfl rfl (by decide) rfl zq_375 zq_376 zq_377 (by decide +kernel) zMk_128 (by decide +kernel) (by decide +kernel) (by decide +kernel)
theorem zr_121_112 : zSnd 121 112 (o_putf 2 5 115) := zS_putf (idx := 52) (by decide +kernel) rfl (by decide) rfl (by decide) rfl zin_2 tyX1_ok nmX1 rfl (by decide +kernel) zq_378
theorem zr_121_115 : zSnd 121 115 (o_goto 128) := zS_goto (by decide +kernel : decode (zmB 121) 115 = .ok (.goto 13, 3)) (by decide)
theorem zr_121_118 : zSnd 121 118 (o_aload 0 119) := zS_aload_n (i := 0) (by decide +kernel) rfl rfl
theorem zr_121_119 : zSnd 121 119 (o_aload 0 120) := zS_aload_n (i := 0) (by decide +kernel) rfl rfl
theorem zr_121_120 : zSnd 121 120 (o_getf 2 2 123) := zS_getf (idx := 19) (by decide +kernel) rfl (by decide) rfl (by decide) rfl zin_2 zq_357
theorem zr_121_123 : zSnd 121 123 (o_const 1 124) := zS_iconst (by decide +kernel) rfl (by decide)
theorem zr_121_124 : zSnd 121 124 (o_isub 125) := zS_isub (by decide +kernel) rfl
theorem zr_121_125 : zSnd 121 125 (o_putf 2 3 128) := zS_putf (idx := 15) (by decide +kernel) rfl (by decide) rfl (by decide) rfl zin_2 tyX1_ok nmX1 rfl (by decide +kernel) zq_358
theorem zr_121_128 : zSnd 121 128 (o_aload 0 129) := zS_aload_n (i := 0) (by decide +kernel) rfl rfl
theorem zr_121_129 : zSnd 121 129 (o_const 59 131) := zS_bipush (by decide +kernel) rfl (by decide) (by decide)
theorem zr_121_131 : zSnd 121 131 (o_callv 2 127 2 2 0 134) := zS_callV (n := 1) (idx := 55) (by decide +kernel) rfl rfl (by decide) rfl zq_379 zq_380 zq_381 (by decide +kernel) zMk_127 (by decide +kernel) (by decide +kernel) (by decide +kernel)
theorem zr_121_134 : zSnd 121 134 (o_aload 0 135) := zS_aload_n (i := 0) (by decide +kernel) rfl rfl
theorem zr_121_135 : zSnd 121 135 (o_getf 2 3 138) := zS_getf (idx := 15) (by decide +kernel) rfl (by decide) rfl (by decide) rfl zin_2 zq_358
theorem zr_121_138 : zSnd 121 138 (o_const (-1) 139) := zS_iconst (by decide +kernel) rfl (by decide)
theorem zr_121_139 : zSnd 121 139 (o_cne 146 142) := zS_cne (by decide +kernel : decode (zmB 121) 139 = .ok (.if_icmp .ne 7, 3)) rfl (by decide)
theorem zr_121_142 : zSnd 121 142 (o_const 1 143) := zS_iconst (by decide +kernel) rfl (by decide)
theorem zr_121_143 : zSnd 121 143 (o_goto 147) := zS_goto (by decide +kernel : decode (zmB 121) 143 = .ok (.goto 4, 3)) (by decide)
theorem zr_121_146 : zSnd 121 146 (o_const 0 147) := zS_iconst (by decide +kernel) rfl (by decide)
theorem zr_121_147 : zSnd 121 147 (o_zret) := zS_zret (by decide +kernel) (by decide +kernel)
theorem zT_121 (pc : Nat) : zSnd 121 pc (zc_121 pc) := by
  unfold zc_121
  exact (zSn_nd (zSn_nd (zSn_nd (zSn_nd (zSn_nd (zSn_lf zr_121_0) (zSn_nd (zSn_lf zr_121_1) (zSn_lf zr_121_4))) (zSn_nd (zSn_nd (zSn_lf zr_121_5) (zSn_lf zr_121_8)) (zSn_nd (zSn_lf zr_121_9) (zSn_lf zr_121_12)))) (zSn_nd (zSn_nd (zSn_lf zr_121_13) (zSn_nd (zSn_lf zr_121_16) (zSn_lf zr_121_19))) (zSn_nd (zSn_nd (zSn_lf zr_121_20) (zSn_lf zr_121_21)) (zSn_nd (zSn_lf zr_121_22) (zSn_lf zr_121_23))))) (zSn_nd (zSn_nd (zSn_nd (zSn_lf zr_121_26) (zSn_nd (zSn_lf zr_121_29) (zSn_lf zr_121_30))) (zSn_nd (zSn_nd (zSn_lf zr_121_31) (zSn_lf zr_121_34)) (zSn_nd (zSn_lf zr_121_35) (zSn_lf zr_121_36)))) (zSn_nd (zSn_nd (zSn_lf zr_121_39) (zSn_nd (zSn_lf zr_121_40) (zSn_lf zr_121_43))) (zSn_nd (zSn_nd (zSn_lf zr_121_84) (zSn_lf zr_121_85)) (zSn_nd (zSn_lf zr_121_88) (zSn_lf zr_121_91)))))) (zSn_nd (zSn_nd (zSn_nd (zSn_nd (zSn_lf zr_121_92) (zSn_nd (zSn_lf zr_121_95) (zSn_lf zr_121_98))) (zSn_nd (zSn_nd (zSn_lf zr_121_99) (zSn_lf zr_121_102)) (zSn_nd (zSn_lf zr_121_105) (zSn_lf zr_121_106)))) (zSn_nd (zSn_nd (zSn_lf zr_121_107) (zSn_nd (zSn_lf zr_121_108) (zSn_lf zr_121_109))) (zSn_nd (zSn_nd (zSn_lf zr_121_112) (zSn_lf zr_121_115)) (zSn_nd (zSn_lf zr_121_118) (zSn_lf zr_121_119))))) (zSn_nd (zSn_nd (zSn_nd (zSn_lf zr_121_120) (zSn_nd (zSn_lf zr_121_123) (zSn_lf zr_121_124))) (zSn_nd (zSn_nd (zSn_lf zr_121_125) (zSn_lf zr_121_128)) (zSn_nd (zSn_lf zr_121_129) (zSn_lf zr_121_131)))) (zSn_nd (zSn_nd (zSn_nd (zSn_lf zr_121_134) (zSn_lf zr_121_135)) (zSn_nd (zSn_lf zr_121_138) (zSn_lf zr_121_139))) (zSn_nd (zSn_nd (zSn_lf zr_121_142) (zSn_lf zr_121_143)) (zSn_nd (zSn_lf zr_121_146) (zSn_lf zr_121_147)))))))
