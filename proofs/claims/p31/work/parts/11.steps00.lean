/-! ===== 11: a row for each step (written by a program) ===== -/
theorem zr_1_0 : zSnd 1 0 (o_iload 1 1) := zS_iload_n (i := 1) (by decide +kernel) rfl rfl
theorem zr_1_1 : zSnd 1 1 (o_const 1 2) := zS_iconst (by decide +kernel) rfl (by decide)
theorem zr_1_2 : zSnd 1 2 (o_const 9 4) := zS_bipush (by decide +kernel) rfl (by decide) (by decide)
theorem zr_1_4 : zSnd 1 4 (o_call 33 3 3 1 7) := zS_callS (idx := 35) (by decide +kernel) rfl zq_0 zq_1 (by decide +kernel) zMk_33 (by decide +kernel) (by decide +kernel) (by decide +kernel)
theorem zr_1_7 : zSnd 1 7 (o_ifeq 21 10) := zS_ifeq (by decide +kernel : decode (zmB 1) 7 = .ok (.ifCond .eq 14, 3)) rfl (by decide)
theorem zr_1_10 : zSnd 1 10 (o_iload 2 11) := zS_iload_n (i := 2) (by decide +kernel) rfl rfl
theorem zr_1_11 : zSnd 1 11 (o_const 0 12) := zS_iconst (by decide +kernel) rfl (by decide)
theorem zr_1_12 : zSnd 1 12 (o_const 999 15) := zS_sipush (by decide +kernel) rfl (by decide) (by decide)
theorem zr_1_15 : zSnd 1 15 (o_call 33 3 3 1 18) := zS_callS (idx := 35) (by decide +kernel) rfl zq_0 zq_1 (by decide +kernel) zMk_33 (by decide +kernel) (by decide +kernel) (by decide +kernel)
theorem zr_1_18 : zSnd 1 18 (o_ifne 31 21) := zS_ifne (by decide +kernel : decode (zmB 1) 18 = .ok (.ifCond .ne 13, 3)) rfl (by decide)
theorem zr_1_21 : zSnd 1 21 (o_thr 1) := zS_thr
theorem zr_1_31 : zSnd 1 31 (o_aload 0 32) := zS_aload_n (i := 0) (by decide +kernel) rfl rfl
theorem zr_1_32 : zSnd 1 32 (o_getf 5 1 35) := zS_getf (idx := 20) (by decide +kernel) rfl (by decide) rfl (by decide) rfl zin_5 zq_2
theorem zr_1_35 : zSnd 1 35 (o_callv 4 150 1 1 1 38) := zS_callVN (n := 0) (idx := 62) (by decide +kernel) rfl rfl (by decide) rfl zq_3 zq_4 zq_5 (by decide +kernel) zMk_150 (by decide +kernel) (by decide +kernel) (by decide +kernel)
theorem zr_1_38 : zSnd 1 38 (o_ifne 51 41) := zS_ifne (by decide +kernel : decode (zmB 1) 38 = .ok (.ifCond .ne 13, 3)) rfl (by decide)
theorem zr_1_41 : zSnd 1 41 (o_thr 2) := zS_thr
theorem zr_1_51 : zSnd 1 51 (o_aload 0 52) := zS_aload_n (i := 0) (by decide +kernel) rfl rfl
theorem zr_1_52 : zSnd 1 52 (o_getf 5 2 55) := zS_getf (idx := 24) (by decide +kernel) rfl (by decide) rfl (by decide) rfl zin_5 zq_6
theorem zr_1_55 : zSnd 1 55 (o_aload 0 56) := zS_aload_n (i := 0) (by decide +kernel) rfl rfl
theorem zr_1_56 : zSnd 1 56 (o_getf 5 1 59) := zS_getf (idx := 20) (by decide +kernel) rfl (by decide) rfl (by decide) rfl zin_5 zq_2
theorem zr_1_59 : zSnd 1 59 (o_callv 1 117 2 2 0 62) := zS_callVN (n := 1) (idx := 46) (by decide +kernel) rfl rfl (by decide) rfl zq_7 zq_8 zq_9 (by decide +kernel) zMk_117 (by decide +kernel) (by decide +kernel) (by decide +kernel)
theorem zr_1_62 : zSnd 1 62 (o_aload 0 63) := zS_aload_n (i := 0) (by decide +kernel) rfl rfl
theorem zr_1_63 : zSnd 1 63 (o_getf 5 1 66) := zS_getf (idx := 20) (by decide +kernel) rfl (by decide) rfl (by decide) rfl zin_5 zq_2
theorem zr_1_66 : zSnd 1 66 (o_iload 1 67) := zS_iload_n (i := 1) (by decide +kernel) rfl rfl
theorem zr_1_67 : zSnd 1 67 (o_iload 2 68) := zS_iload_n (i := 2) (by decide +kernel) rfl rfl
theorem zr_1_68 : zSnd 1 68 (o_callv 4 153 3 3 1 71) := zS_callVN (n := 2) (idx := 71) (by decide +kernel) rfl rfl (by decide) rfl zq_10 zq_11 zq_12 (by decide +kernel) zMk_153 (by decide +kernel) (by decide +kernel) (by decide +kernel)
theorem zr_1_71 : zSnd 1 71 (o_iret) := zS_iret (by decide +kernel) (by decide +kernel)
theorem zT_1 (pc : Nat) : zSnd 1 pc (zc_1 pc) := by
  unfold zc_1
  exact (zSn_nd (zSn_nd (zSn_nd (zSn_nd (zSn_lf zr_1_0) (zSn_nd (zSn_lf zr_1_1) (zSn_lf zr_1_2))) (zSn_nd (zSn_lf zr_1_4) (zSn_nd (zSn_lf zr_1_7) (zSn_lf zr_1_10)))) (zSn_nd (zSn_nd (zSn_lf zr_1_11) (zSn_nd (zSn_lf zr_1_12) (zSn_lf zr_1_15))) (zSn_nd (zSn_nd (zSn_lf zr_1_18) (zSn_lf zr_1_21)) (zSn_nd (zSn_lf zr_1_31) (zSn_lf zr_1_32))))) (zSn_nd (zSn_nd (zSn_nd (zSn_lf zr_1_35) (zSn_nd (zSn_lf zr_1_38) (zSn_lf zr_1_41))) (zSn_nd (zSn_nd (zSn_lf zr_1_51) (zSn_lf zr_1_52)) (zSn_nd (zSn_lf zr_1_55) (zSn_lf zr_1_56)))) (zSn_nd (zSn_nd (zSn_lf zr_1_59) (zSn_nd (zSn_lf zr_1_62) (zSn_lf zr_1_63))) (zSn_nd (zSn_nd (zSn_lf zr_1_66) (zSn_lf zr_1_67)) (zSn_nd (zSn_lf zr_1_68) (zSn_lf zr_1_71))))))
theorem zr_2_0 : zSnd 2 0 (o_aload 0 1) := zS_aload_n (i := 0) (by decide +kernel) rfl rfl
theorem zr_2_1 : zSnd 2 1 (o_getf 5 1 4) := zS_getf (idx := 20) (by decide +kernel) rfl (by decide) rfl (by decide) rfl zin_5 zq_2
theorem zr_2_4 : zSnd 2 4 (o_iload 1 5) := zS_iload_n (i := 1) (by decide +kernel) rfl rfl
theorem zr_2_5 : zSnd 2 5 (o_callv 4 147 2 2 1 8) := zS_callVN (n := 1) (idx := 75) (by decide +kernel) rfl rfl (by decide) rfl zq_13 zq_14 zq_15 (by decide +kernel) zMk_147 (by decide +kernel) (by decide +kernel) (by decide +kernel)
theorem zr_2_8 : zSnd 2 8 (o_ifeq 22 11) := zS_ifeq (by decide +kernel : decode (zmB 2) 8 = .ok (.ifCond .eq 14, 3)) rfl (by decide)
theorem zr_2_11 : zSnd 2 11 (o_aload 0 12) := zS_aload_n (i := 0) (by decide +kernel) rfl rfl
theorem zr_2_12 : zSnd 2 12 (o_getf 5 1 15) := zS_getf (idx := 20) (by decide +kernel) rfl (by decide) rfl (by decide) rfl zin_5 zq_2
theorem zr_2_15 : zSnd 2 15 (o_iload 2 16) := zS_iload_n (i := 2) (by decide +kernel) rfl rfl
theorem zr_2_16 : zSnd 2 16 (o_callv 4 146 2 2 1 19) := zS_callVN (n := 1) (idx := 79) (by decide +kernel) rfl rfl (by decide) rfl zq_16 zq_17 zq_18 (by decide +kernel) zMk_146 (by decide +kernel) (by decide +kernel) (by decide +kernel)
theorem zr_2_19 : zSnd 2 19 (o_ifne 32 22) := zS_ifne (by decide +kernel : decode (zmB 2) 19 = .ok (.ifCond .ne 13, 3)) rfl (by decide)
theorem zr_2_22 : zSnd 2 22 (o_thr 3) := zS_thr
theorem zr_2_32 : zSnd 2 32 (o_iload 3 33) := zS_iload_n (i := 3) (by decide +kernel) rfl rfl
theorem zr_2_33 : zSnd 2 33 (o_const 1 34) := zS_iconst (by decide +kernel) rfl (by decide)
theorem zr_2_34 : zSnd 2 34 (o_const 20 36) := zS_bipush (by decide +kernel) rfl (by decide) (by decide)
theorem zr_2_36 : zSnd 2 36 (o_call 33 3 3 1 39) := zS_callS (idx := 35) (by decide +kernel) rfl zq_0 zq_1 (by decide +kernel) zMk_33 (by decide +kernel) (by decide +kernel) (by decide +kernel)
theorem zr_2_39 : zSnd 2 39 (o_ifne 52 42) := zS_ifne (by decide +kernel : decode (zmB 2) 39 = .ok (.ifCond .ne 13, 3)) rfl (by decide)
theorem zr_2_42 : zSnd 2 42 (o_thr 1) := zS_thr
theorem zr_2_52 : zSnd 2 52 (o_aload 0 53) := zS_aload_n (i := 0) (by decide +kernel) rfl rfl
theorem zr_2_53 : zSnd 2 53 (o_getf 5 1 56) := zS_getf (idx := 20) (by decide +kernel) rfl (by decide) rfl (by decide) rfl zin_5 zq_2
theorem zr_2_56 : zSnd 2 56 (o_iload 1 57) := zS_iload_n (i := 1) (by decide +kernel) rfl rfl
theorem zr_2_57 : zSnd 2 57 (o_callv 4 151 2 2 1 60) := zS_callVN (n := 1) (idx := 89) (by decide +kernel) rfl rfl (by decide) rfl zq_19 zq_20 zq_21 (by decide +kernel) zMk_151 (by decide +kernel) (by decide +kernel) (by decide +kernel)
theorem zr_2_60 : zSnd 2 60 (o_ifne 73 63) := zS_ifne (by decide +kernel : decode (zmB 2) 60 = .ok (.ifCond .ne 13, 3)) rfl (by decide)
theorem zr_2_63 : zSnd 2 63 (o_thr 2) := zS_thr
theorem zr_2_73 : zSnd 2 73 (o_aload 0 74) := zS_aload_n (i := 0) (by decide +kernel) rfl rfl
theorem zr_2_74 : zSnd 2 74 (o_getf 5 2 77) := zS_getf (idx := 24) (by decide +kernel) rfl (by decide) rfl (by decide) rfl zin_5 zq_6
theorem zr_2_77 : zSnd 2 77 (o_aload 0 78) := zS_aload_n (i := 0) (by decide +kernel) rfl rfl
theorem zr_2_78 : zSnd 2 78 (o_getf 5 1 81) := zS_getf (idx := 20) (by decide +kernel) rfl (by decide) rfl (by decide) rfl zin_5 zq_2
theorem zr_2_81 : zSnd 2 81 (o_callv 1 117 2 2 0 84) := zS_callVN (n := 1) (idx := 46) (by decide +kernel) rfl rfl (by decide) rfl zq_7 zq_8 zq_9 (by decide +kernel) zMk_117 (by decide +kernel) (by decide +kernel) (by decide +kernel)
theorem zr_2_84 : zSnd 2 84 (o_aload 0 85) := zS_aload_n (i := 0) (by decide +kernel) rfl rfl
theorem zr_2_85 : zSnd 2 85 (o_getf 5 1 88) := zS_getf (idx := 20) (by decide +kernel) rfl (by decide) rfl (by decide) rfl zin_5 zq_2
theorem zr_2_88 : zSnd 2 88 (o_iload 1 89) := zS_iload_n (i := 1) (by decide +kernel) rfl rfl
theorem zr_2_89 : zSnd 2 89 (o_iload 2 90) := zS_iload_n (i := 2) (by decide +kernel) rfl rfl
theorem zr_2_90 : zSnd 2 90 (o_iload 3 91) := zS_iload_n (i := 3) (by decide +kernel) rfl rfl
theorem zr_2_91 : zSnd 2 91 (o_callv 4 154 4 5 1 94) := zS_callVN (n := 3) (idx := 94) (by decide +kernel) rfl rfl (by decide) rfl zq_22 zq_23 zq_24 (by decide +kernel) zMk_154 (by decide +kernel) (by decide +kernel) (by decide +kernel)
theorem zr_2_94 : zSnd 2 94 (o_iret) := zS_iret (by decide +kernel) (by decide +kernel)
theorem zT_2 (pc : Nat) : zSnd 2 pc (zc_2 pc) := by
  unfold zc_2
  exact (zSn_nd (zSn_nd (zSn_nd (zSn_nd (zSn_nd (zSn_lf zr_2_0) (zSn_lf zr_2_1)) (zSn_nd (zSn_lf zr_2_4) (zSn_lf zr_2_5))) (zSn_nd (zSn_nd (zSn_lf zr_2_8) (zSn_lf zr_2_11)) (zSn_nd (zSn_lf zr_2_12) (zSn_lf zr_2_15)))) (zSn_nd (zSn_nd (zSn_nd (zSn_lf zr_2_16) (zSn_lf zr_2_19)) (zSn_nd (zSn_lf zr_2_22) (zSn_lf zr_2_32))) (zSn_nd (zSn_nd (zSn_lf zr_2_33) (zSn_lf zr_2_34)) (zSn_nd (zSn_lf zr_2_36) (zSn_nd (zSn_lf zr_2_39) (zSn_lf zr_2_42)))))) (zSn_nd (zSn_nd (zSn_nd (zSn_nd (zSn_lf zr_2_52) (zSn_lf zr_2_53)) (zSn_nd (zSn_lf zr_2_56) (zSn_lf zr_2_57))) (zSn_nd (zSn_nd (zSn_lf zr_2_60) (zSn_lf zr_2_63)) (zSn_nd (zSn_lf zr_2_73) (zSn_nd (zSn_lf zr_2_74) (zSn_lf zr_2_77))))) (zSn_nd (zSn_nd (zSn_nd (zSn_lf zr_2_78) (zSn_lf zr_2_81)) (zSn_nd (zSn_lf zr_2_84) (zSn_lf zr_2_85))) (zSn_nd (zSn_nd (zSn_lf zr_2_88) (zSn_lf zr_2_89)) (zSn_nd (zSn_lf zr_2_90) (zSn_nd (zSn_lf zr_2_91) (zSn_lf zr_2_94)))))))
theorem zr_3_0 : zSnd 3 0 (o_aload 0 1) := zS_aload_n (i := 0) (by decide +kernel) rfl rfl
theorem zr_3_1 : zSnd 3 1 (o_getf 5 1 4) := zS_getf (idx := 20) (by decide +kernel) rfl (by decide) rfl (by decide) rfl zin_5 zq_2
theorem zr_3_4 : zSnd 3 4 (o_iload 1 5) := zS_iload_n (i := 1) (by decide +kernel) rfl rfl
theorem zr_3_5 : zSnd 3 5 (o_callv 4 146 2 2 1 8) := zS_callVN (n := 1) (idx := 79) (by decide +kernel) rfl rfl (by decide) rfl zq_16 zq_17 zq_18 (by decide +kernel) zMk_146 (by decide +kernel) (by decide +kernel) (by decide +kernel)
theorem zr_3_8 : zSnd 3 8 (o_ifne 21 11) := zS_ifne (by decide +kernel : decode (zmB 3) 8 = .ok (.ifCond .ne 13, 3)) rfl (by decide)
theorem zr_3_11 : zSnd 3 11 (o_thr 3) := zS_thr
theorem zr_3_21 : zSnd 3 21 (o_iload 2 22) := zS_iload_n (i := 2) (by decide +kernel) rfl rfl
theorem zr_3_22 : zSnd 3 22 (o_const 0 23) := zS_iconst (by decide +kernel) rfl (by decide)
theorem zr_3_23 : zSnd 3 23 (o_const 500 26) := zS_sipush (by decide +kernel) rfl (by decide) (by decide)
theorem zr_3_26 : zSnd 3 26 (o_call 33 3 3 1 29) := zS_callS (idx := 35) (by decide +kernel) rfl zq_0 zq_1 (by decide +kernel) zMk_33 (by decide +kernel) (by decide +kernel) (by decide +kernel)
theorem zr_3_29 : zSnd 3 29 (o_ifeq 42 32) := zS_ifeq (by decide +kernel : decode (zmB 3) 29 = .ok (.ifCond .eq 13, 3)) rfl (by decide)
theorem zr_3_32 : zSnd 3 32 (o_iload 3 33) := zS_iload_n (i := 3) (by decide +kernel) rfl rfl
theorem zr_3_33 : zSnd 3 33 (o_const 1 34) := zS_iconst (by decide +kernel) rfl (by decide)
theorem zr_3_34 : zSnd 3 34 (o_const 50 36) := zS_bipush (by decide +kernel) rfl (by decide) (by decide)
theorem zr_3_36 : zSnd 3 36 (o_call 33 3 3 1 39) := zS_callS (idx := 35) (by decide +kernel) rfl zq_0 zq_1 (by decide +kernel) zMk_33 (by decide +kernel) (by decide +kernel) (by decide +kernel)
theorem zr_3_39 : zSnd 3 39 (o_ifne 52 42) := zS_ifne (by decide +kernel : decode (zmB 3) 39 = .ok (.ifCond .ne 13, 3)) rfl (by decide)
theorem zr_3_42 : zSnd 3 42 (o_thr 1) := zS_thr
theorem zr_3_52 : zSnd 3 52 (o_aload 0 53) := zS_aload_n (i := 0) (by decide +kernel) rfl rfl
theorem zr_3_53 : zSnd 3 53 (o_getf 5 1 56) := zS_getf (idx := 20) (by decide +kernel) rfl (by decide) rfl (by decide) rfl zin_5 zq_2
theorem zr_3_56 : zSnd 3 56 (o_callv 4 152 1 1 1 59) := zS_callVN (n := 0) (idx := 102) (by decide +kernel) rfl rfl (by decide) rfl zq_25 zq_26 zq_27 (by decide +kernel) zMk_152 (by decide +kernel) (by decide +kernel) (by decide +kernel)
theorem zr_3_59 : zSnd 3 59 (o_ifne 72 62) := zS_ifne (by decide +kernel : decode (zmB 3) 59 = .ok (.ifCond .ne 13, 3)) rfl (by decide)
theorem zr_3_62 : zSnd 3 62 (o_thr 2) := zS_thr
theorem zr_3_72 : zSnd 3 72 (o_aload 0 73) := zS_aload_n (i := 0) (by decide +kernel) rfl rfl
theorem zr_3_73 : zSnd 3 73 (o_getf 5 2 76) := zS_getf (idx := 24) (by decide +kernel) rfl (by decide) rfl (by decide) rfl zin_5 zq_6
theorem zr_3_76 : zSnd 3 76 (o_aload 0 77) := zS_aload_n (i := 0) (by decide +kernel) rfl rfl
theorem zr_3_77 : zSnd 3 77 (o_getf 5 1 80) := zS_getf (idx := 20) (by decide +kernel) rfl (by decide) rfl (by decide) rfl zin_5 zq_2
theorem zr_3_80 : zSnd 3 80 (o_callv 1 117 2 2 0 83) := zS_callVN (n := 1) (idx := 46) (by decide +kernel) rfl rfl (by decide) rfl zq_7 zq_8 zq_9 (by decide +kernel) zMk_117 (by decide +kernel) (by decide +kernel) (by decide +kernel)
theorem zr_3_83 : zSnd 3 83 (o_aload 0 84) := zS_aload_n (i := 0) (by decide +kernel) rfl rfl
theorem zr_3_84 : zSnd 3 84 (o_getf 5 1 87) := zS_getf (idx := 20) (by decide +kernel) rfl (by decide) rfl (by decide) rfl zin_5 zq_2
theorem zr_3_87 : zSnd 3 87 (o_iload 1 88) := zS_iload_n (i := 1) (by decide +kernel) rfl rfl
theorem zr_3_88 : zSnd 3 88 (o_iload 2 89) := zS_iload_n (i := 2) (by decide +kernel) rfl rfl
theorem zr_3_89 : zSnd 3 89 (o_iload 3 90) := zS_iload_n (i := 3) (by decide +kernel) rfl rfl
theorem zr_3_90 : zSnd 3 90 (o_callv 4 155 4 4 1 93) := zS_callVN (n := 3) (idx := 107) (by decide +kernel) rfl rfl (by decide) rfl zq_28 zq_29 zq_30 (by decide +kernel) zMk_155 (by decide +kernel) (by decide +kernel) (by decide +kernel)
theorem zr_3_93 : zSnd 3 93 (o_iret) := zS_iret (by decide +kernel) (by decide +kernel)
theorem zT_3 (pc : Nat) : zSnd 3 pc (zc_3 pc) := by
  unfold zc_3
  exact (zSn_nd (zSn_nd (zSn_nd (zSn_nd (zSn_nd (zSn_lf zr_3_0) (zSn_lf zr_3_1)) (zSn_nd (zSn_lf zr_3_4) (zSn_lf zr_3_5))) (zSn_nd (zSn_nd (zSn_lf zr_3_8) (zSn_lf zr_3_11)) (zSn_nd (zSn_lf zr_3_21) (zSn_lf zr_3_22)))) (zSn_nd (zSn_nd (zSn_nd (zSn_lf zr_3_23) (zSn_lf zr_3_26)) (zSn_nd (zSn_lf zr_3_29) (zSn_lf zr_3_32))) (zSn_nd (zSn_nd (zSn_lf zr_3_33) (zSn_lf zr_3_34)) (zSn_nd (zSn_lf zr_3_36) (zSn_nd (zSn_lf zr_3_39) (zSn_lf zr_3_42)))))) (zSn_nd (zSn_nd (zSn_nd (zSn_nd (zSn_lf zr_3_52) (zSn_lf zr_3_53)) (zSn_nd (zSn_lf zr_3_56) (zSn_lf zr_3_59))) (zSn_nd (zSn_nd (zSn_lf zr_3_62) (zSn_lf zr_3_72)) (zSn_nd (zSn_lf zr_3_73) (zSn_lf zr_3_76)))) (zSn_nd (zSn_nd (zSn_nd (zSn_lf zr_3_77) (zSn_lf zr_3_80)) (zSn_nd (zSn_lf zr_3_83) (zSn_lf zr_3_84))) (zSn_nd (zSn_nd (zSn_lf zr_3_87) (zSn_lf zr_3_88)) (zSn_nd (zSn_lf zr_3_89) (zSn_nd (zSn_lf zr_3_90) (zSn_lf zr_3_93)))))))
theorem zr_4_0 : zSnd 4 0 (o_aload 0 1) := zS_aload_n (i := 0) (by decide +kernel) rfl rfl
theorem zr_4_1 : zSnd 4 1 (o_getf 5 1 4) := zS_getf (idx := 20) (by decide +kernel) rfl (by decide) rfl (by decide) rfl zin_5 zq_2
theorem zr_4_4 : zSnd 4 4 (o_getf 4 7 7) := zS_getfN (idx := 110) (by decide +kernel) rfl (by decide) rfl (by decide) rfl zin_4 zq_31
theorem zr_4_7 : zSnd 4 7 (o_ifne 20 10) := zS_ifne (by decide +kernel : decode (zmB 4) 7 = .ok (.ifCond .ne 13, 3)) rfl (by decide)
theorem zr_4_10 : zSnd 4 10 (o_thr 2) := zS_thr
theorem zr_4_20 : zSnd 4 20 (o_aload 0 21) := zS_aload_n (i := 0) (by decide +kernel) rfl rfl
theorem zr_4_21 : zSnd 4 21 (o_getf 5 2 24) := zS_getf (idx := 24) (by decide +kernel) rfl (by decide) rfl (by decide) rfl zin_5 zq_6
theorem zr_4_24 : zSnd 4 24 (o_aload 0 25) := zS_aload_n (i := 0) (by decide +kernel) rfl rfl
theorem zr_4_25 : zSnd 4 25 (o_getf 5 1 28) := zS_getf (idx := 20) (by decide +kernel) rfl (by decide) rfl (by decide) rfl zin_5 zq_2
theorem zr_4_28 : zSnd 4 28 (o_callv 1 117 2 2 0 31) := zS_callVN (n := 1) (idx := 46) (by decide +kernel) rfl rfl (by decide) rfl zq_7 zq_8 zq_9 (by decide +kernel) zMk_117 (by decide +kernel) (by decide +kernel) (by decide +kernel)
theorem zr_4_31 : zSnd 4 31 (o_aload 0 32) := zS_aload_n (i := 0) (by decide +kernel) rfl rfl
theorem zr_4_32 : zSnd 4 32 (o_getf 5 1 35) := zS_getf (idx := 20) (by decide +kernel) rfl (by decide) rfl (by decide) rfl zin_5 zq_2
theorem zr_4_35 : zSnd 4 35 (o_dup 36) := zS_dup (by decide +kernel) rfl
theorem zr_4_36 : zSnd 4 36 (o_getf 4 7 39) := zS_getfN (idx := 110) (by decide +kernel) rfl (by decide) rfl (by decide) rfl zin_4 zq_31
theorem zr_4_39 : zSnd 4 39 (o_const 1 40) := zS_iconst (by decide +kernel) rfl (by decide)
theorem zr_4_40 : zSnd 4 40 (o_isub 41) := zS_isub (by decide +kernel) rfl
theorem zr_4_41 : zSnd 4 41 (o_putf 4 7 44) := zS_putfN (idx := 110) (by decide +kernel) rfl (by decide) rfl (by decide) rfl zin_4 tyX3_ok nmX3 rfl (by decide +kernel) zq_31
theorem zr_4_44 : zSnd 4 44 (o_aload 0 45) := zS_aload_n (i := 0) (by decide +kernel) rfl rfl
theorem zr_4_45 : zSnd 4 45 (o_getf 5 1 48) := zS_getf (idx := 20) (by decide +kernel) rfl (by decide) rfl (by decide) rfl zin_5 zq_2
theorem zr_4_48 : zSnd 4 48 (o_getf 4 7 51) := zS_getfN (idx := 110) (by decide +kernel) rfl (by decide) rfl (by decide) rfl zin_4 zq_31
theorem zr_4_51 : zSnd 4 51 (o_iret) := zS_iret (by decide +kernel) (by decide +kernel)
theorem zT_4 (pc : Nat) : zSnd 4 pc (zc_4 pc) := by
  unfold zc_4
  exact (zSn_nd (zSn_nd (zSn_nd (zSn_nd (zSn_lf zr_4_0) (zSn_lf zr_4_1)) (zSn_nd (zSn_lf zr_4_4) (zSn_nd (zSn_lf zr_4_7) (zSn_lf zr_4_10)))) (zSn_nd (zSn_nd (zSn_lf zr_4_20) (zSn_lf zr_4_21)) (zSn_nd (zSn_lf zr_4_24) (zSn_nd (zSn_lf zr_4_25) (zSn_lf zr_4_28))))) (zSn_nd (zSn_nd (zSn_nd (zSn_lf zr_4_31) (zSn_lf zr_4_32)) (zSn_nd (zSn_lf zr_4_35) (zSn_nd (zSn_lf zr_4_36) (zSn_lf zr_4_39)))) (zSn_nd (zSn_nd (zSn_lf zr_4_40) (zSn_nd (zSn_lf zr_4_41) (zSn_lf zr_4_44))) (zSn_nd (zSn_lf zr_4_45) (zSn_nd (zSn_lf zr_4_48) (zSn_lf zr_4_51))))))
theorem zr_5_0 : zSnd 5 0 (o_iload 1 1) := zS_iload_n (i := 1) (by decide +kernel) rfl rfl
theorem zr_5_1 : zSnd 5 1 (o_call 34 1 1 1 4) := zS_callS (idx := 115) (by decide +kernel) rfl zq_32 zq_33 (by decide +kernel) zMk_34 (by decide +kernel) (by decide +kernel) (by decide +kernel)
theorem zr_5_4 : zSnd 5 4 (o_ifne 17 7) := zS_ifne (by decide +kernel : decode (zmB 5) 4 = .ok (.ifCond .ne 13, 3)) rfl (by decide)
theorem zr_5_7 : zSnd 5 7 (o_thr 1) := zS_thr
theorem zr_5_17 : zSnd 5 17 (o_aload 0 18) := zS_aload_n (i := 0) (by decide +kernel) rfl rfl
theorem zr_5_18 : zSnd 5 18 (o_getf 5 2 21) := zS_getf (idx := 24) (by decide +kernel) rfl (by decide) rfl (by decide) rfl zin_5 zq_6
theorem zr_5_21 : zSnd 5 21 (o_aload 0 22) := zS_aload_n (i := 0) (by decide +kernel) rfl rfl
theorem zr_5_22 : zSnd 5 22 (o_getf 5 1 25) := zS_getf (idx := 20) (by decide +kernel) rfl (by decide) rfl (by decide) rfl zin_5 zq_2
theorem zr_5_25 : zSnd 5 25 (o_callv 1 117 2 2 0 28) := zS_callVN (n := 1) (idx := 46) (by decide +kernel) rfl rfl (by decide) rfl zq_7 zq_8 zq_9 (by decide +kernel) zMk_117 (by decide +kernel) (by decide +kernel) (by decide +kernel)
theorem zr_5_28 : zSnd 5 28 (o_aload 0 29) := zS_aload_n (i := 0) (by decide +kernel) rfl rfl
theorem zr_5_29 : zSnd 5 29 (o_iload 1 30) := zS_iload_n (i := 1) (by decide +kernel) rfl rfl
theorem zr_5_30 : zSnd 5 30 (o_callv 5 30 2 2 1 33) := zS_callV (n := 1) (idx := 120) (by decide +kernel) rfl rfl (by decide) rfl zq_34 zq_35 zq_36 (by decide +kernel) zMk_30 (by decide +kernel) (by decide +kernel) (by decide +kernel)
theorem zr_5_33 : zSnd 5 33 (o_iret) := zS_iret (by decide +kernel) (by decide +kernel)
theorem zT_5 (pc : Nat) : zSnd 5 pc (zc_5 pc) := by
  unfold zc_5
  exact (zSn_nd (zSn_nd (zSn_nd (zSn_lf zr_5_0) (zSn_nd (zSn_lf zr_5_1) (zSn_lf zr_5_4))) (zSn_nd (zSn_lf zr_5_7) (zSn_nd (zSn_lf zr_5_17) (zSn_lf zr_5_18)))) (zSn_nd (zSn_nd (zSn_lf zr_5_21) (zSn_nd (zSn_lf zr_5_22) (zSn_lf zr_5_25))) (zSn_nd (zSn_nd (zSn_lf zr_5_28) (zSn_lf zr_5_29)) (zSn_nd (zSn_lf zr_5_30) (zSn_lf zr_5_33)))))
theorem zr_6_0 : zSnd 6 0 (o_aload 0 1) := zS_aload_n (i := 0) (by decide +kernel) rfl rfl
theorem zr_6_1 : zSnd 6 1 (o_getf 5 1 4) := zS_getf (idx := 20) (by decide +kernel) rfl (by decide) rfl (by decide) rfl zin_5 zq_2
theorem zr_6_4 : zSnd 6 4 (o_getf 4 11 7) := zS_getfN (idx := 124) (by decide +kernel) rfl (by decide) rfl (by decide) rfl zin_4 zq_37
theorem zr_6_7 : zSnd 6 7 (o_ifne 20 10) := zS_ifne (by decide +kernel : decode (zmB 6) 7 = .ok (.ifCond .ne 13, 3)) rfl (by decide)
theorem zr_6_10 : zSnd 6 10 (o_thr 2) := zS_thr
theorem zr_6_20 : zSnd 6 20 (o_aload 0 21) := zS_aload_n (i := 0) (by decide +kernel) rfl rfl
theorem zr_6_21 : zSnd 6 21 (o_getf 5 2 24) := zS_getf (idx := 24) (by decide +kernel) rfl (by decide) rfl (by decide) rfl zin_5 zq_6
theorem zr_6_24 : zSnd 6 24 (o_aload 0 25) := zS_aload_n (i := 0) (by decide +kernel) rfl rfl
theorem zr_6_25 : zSnd 6 25 (o_getf 5 1 28) := zS_getf (idx := 20) (by decide +kernel) rfl (by decide) rfl (by decide) rfl zin_5 zq_2
theorem zr_6_28 : zSnd 6 28 (o_callv 1 117 2 2 0 31) := zS_callVN (n := 1) (idx := 46) (by decide +kernel) rfl rfl (by decide) rfl zq_7 zq_8 zq_9 (by decide +kernel) zMk_117 (by decide +kernel) (by decide +kernel) (by decide +kernel)
theorem zr_6_31 : zSnd 6 31 (o_aload 0 32) := zS_aload_n (i := 0) (by decide +kernel) rfl rfl
theorem zr_6_32 : zSnd 6 32 (o_getf 5 0 35) := zS_getf (idx := 12) (by decide +kernel) rfl (by decide) rfl (by decide) rfl zin_5 zq_38
theorem zr_6_35 : zSnd 6 35 (o_callv 3 139 1 6 0 38) := zS_callVN (n := 0) (idx := 130) (by decide +kernel) rfl rfl (by decide) rfl zq_39 zq_40 zq_41 (by decide +kernel) zMk_139 (by decide +kernel) (by decide +kernel) (by decide +kernel)
theorem zr_6_38 : zSnd 6 38 (o_aload 0 39) := zS_aload_n (i := 0) (by decide +kernel) rfl rfl
theorem zr_6_39 : zSnd 6 39 (o_getf 5 0 42) := zS_getf (idx := 12) (by decide +kernel) rfl (by decide) rfl (by decide) rfl zin_5 zq_38
theorem zr_6_42 : zSnd 6 42 (o_aload 0 43) := zS_aload_n (i := 0) (by decide +kernel) rfl rfl
theorem zr_6_43 : zSnd 6 43 (o_getf 5 1 46) := zS_getf (idx := 20) (by decide +kernel) rfl (by decide) rfl (by decide) rfl zin_5 zq_2
theorem zr_6_46 : zSnd 6 46 (o_getf 4 13 49) := zS_getfN (idx := 133) (by decide +kernel) rfl (by decide) rfl (by decide) rfl zin_4 zq_42
theorem zr_6_49 : zSnd 6 49 (o_callv 3 130 2 2 0 52) := zS_callVN (n := 1) (idx := 137) (by decide +kernel) rfl rfl (by decide) rfl zq_43 zq_44 zq_45 (by decide +kernel) zMk_130 (by decide +kernel) (by decide +kernel) (by decide +kernel)
theorem zr_6_52 : zSnd 6 52 (o_aload 0 53) := zS_aload_n (i := 0) (by decide +kernel) rfl rfl
theorem zr_6_53 : zSnd 6 53 (o_getf 5 1 56) := zS_getf (idx := 20) (by decide +kernel) rfl (by decide) rfl (by decide) rfl zin_5 zq_2
theorem zr_6_56 : zSnd 6 56 (o_aload 0 57) := zS_aload_n (i := 0) (by decide +kernel) rfl rfl
theorem zr_6_57 : zSnd 6 57 (o_getf 5 1 60) := zS_getf (idx := 20) (by decide +kernel) rfl (by decide) rfl (by decide) rfl zin_5 zq_2
theorem zr_6_60 : zSnd 6 60 (o_getf 4 13 63) := zS_getfN (idx := 133) (by decide +kernel) rfl (by decide) rfl (by decide) rfl zin_4 zq_42
theorem zr_6_63 : zSnd 6 63 (o_callv 4 161 2 4 1 66) := zS_callVN (n := 1) (idx := 141) (by decide +kernel) rfl rfl (by decide) rfl zq_46 zq_47 zq_48 (by decide +kernel) zMk_161 (by decide +kernel) (by decide +kernel) (by decide +kernel)
theorem zr_6_66 : zSnd 6 66 (o_iret) := zS_iret (by decide +kernel) (by decide +kernel)
theorem zT_6 (pc : Nat) : zSnd 6 pc (zc_6 pc) := by
  unfold zc_6
  exact (zSn_nd (zSn_nd (zSn_nd (zSn_nd (zSn_lf zr_6_0) (zSn_nd (zSn_lf zr_6_1) (zSn_lf zr_6_4))) (zSn_nd (zSn_lf zr_6_7) (zSn_nd (zSn_lf zr_6_10) (zSn_lf zr_6_20)))) (zSn_nd (zSn_nd (zSn_lf zr_6_21) (zSn_nd (zSn_lf zr_6_24) (zSn_lf zr_6_25))) (zSn_nd (zSn_nd (zSn_lf zr_6_28) (zSn_lf zr_6_31)) (zSn_nd (zSn_lf zr_6_32) (zSn_lf zr_6_35))))) (zSn_nd (zSn_nd (zSn_nd (zSn_lf zr_6_38) (zSn_nd (zSn_lf zr_6_39) (zSn_lf zr_6_42))) (zSn_nd (zSn_lf zr_6_43) (zSn_nd (zSn_lf zr_6_46) (zSn_lf zr_6_49)))) (zSn_nd (zSn_nd (zSn_lf zr_6_52) (zSn_nd (zSn_lf zr_6_53) (zSn_lf zr_6_56))) (zSn_nd (zSn_nd (zSn_lf zr_6_57) (zSn_lf zr_6_60)) (zSn_nd (zSn_lf zr_6_63) (zSn_lf zr_6_66))))))
theorem zr_7_0 : zSnd 7 0 (o_iload 1 1) := zS_iload_n (i := 1) (by decide +kernel) rfl rfl
theorem zr_7_1 : zSnd 7 1 (o_const 0 2) := zS_iconst (by decide +kernel) rfl (by decide)
theorem zr_7_2 : zSnd 7 2 (o_const 999 5) := zS_sipush (by decide +kernel) rfl (by decide) (by decide)
theorem zr_7_5 : zSnd 7 5 (o_call 33 3 3 1 8) := zS_callS (idx := 35) (by decide +kernel) rfl zq_0 zq_1 (by decide +kernel) zMk_33 (by decide +kernel) (by decide +kernel) (by decide +kernel)
theorem zr_7_8 : zSnd 7 8 (o_ifeq 18 11) := zS_ifeq (by decide +kernel : decode (zmB 7) 8 = .ok (.ifCond .eq 10, 3)) rfl (by decide)
theorem zr_7_11 : zSnd 7 11 (o_iload 2 12) := zS_iload_n (i := 2) (by decide +kernel) rfl rfl
theorem zr_7_12 : zSnd 7 12 (o_call 34 1 1 1 15) := zS_callS (idx := 115) (by decide +kernel) rfl zq_32 zq_33 (by decide +kernel) zMk_34 (by decide +kernel) (by decide +kernel) (by decide +kernel)
theorem zr_7_15 : zSnd 7 15 (o_ifne 28 18) := zS_ifne (by decide +kernel : decode (zmB 7) 15 = .ok (.ifCond .ne 13, 3)) rfl (by decide)
theorem zr_7_18 : zSnd 7 18 (o_thr 1) := zS_thr
theorem zr_7_28 : zSnd 7 28 (o_aload 0 29) := zS_aload_n (i := 0) (by decide +kernel) rfl rfl
theorem zr_7_29 : zSnd 7 29 (o_getf 5 1 32) := zS_getf (idx := 20) (by decide +kernel) rfl (by decide) rfl (by decide) rfl zin_5 zq_2
theorem zr_7_32 : zSnd 7 32 (o_getf 4 11 35) := zS_getfN (idx := 124) (by decide +kernel) rfl (by decide) rfl (by decide) rfl zin_4 zq_37
theorem zr_7_35 : zSnd 7 35 (o_ifne 48 38) := zS_ifne (by decide +kernel : decode (zmB 7) 35 = .ok (.ifCond .ne 13, 3)) rfl (by decide)
theorem zr_7_38 : zSnd 7 38 (o_thr 2) := zS_thr
theorem zr_7_48 : zSnd 7 48 (o_aload 0 49) := zS_aload_n (i := 0) (by decide +kernel) rfl rfl
theorem zr_7_49 : zSnd 7 49 (o_getf 5 2 52) := zS_getf (idx := 24) (by decide +kernel) rfl (by decide) rfl (by decide) rfl zin_5 zq_6
theorem zr_7_52 : zSnd 7 52 (o_aload 0 53) := zS_aload_n (i := 0) (by decide +kernel) rfl rfl
theorem zr_7_53 : zSnd 7 53 (o_getf 5 1 56) := zS_getf (idx := 20) (by decide +kernel) rfl (by decide) rfl (by decide) rfl zin_5 zq_2
theorem zr_7_56 : zSnd 7 56 (o_callv 1 117 2 2 0 59) := zS_callVN (n := 1) (idx := 46) (by decide +kernel) rfl rfl (by decide) rfl zq_7 zq_8 zq_9 (by decide +kernel) zMk_117 (by decide +kernel) (by decide +kernel) (by decide +kernel)
theorem zr_7_59 : zSnd 7 59 (o_aload 0 60) := zS_aload_n (i := 0) (by decide +kernel) rfl rfl
theorem zr_7_60 : zSnd 7 60 (o_getf 5 0 63) := zS_getf (idx := 12) (by decide +kernel) rfl (by decide) rfl (by decide) rfl zin_5 zq_38
theorem zr_7_63 : zSnd 7 63 (o_iload 1 64) := zS_iload_n (i := 1) (by decide +kernel) rfl rfl
theorem zr_7_64 : zSnd 7 64 (o_iload 2 65) := zS_iload_n (i := 2) (by decide +kernel) rfl rfl
theorem zr_7_65 : zSnd 7 65 (o_callv 3 135 3 4 0 68) := zS_callVN (n := 2) (idx := 147) (by decide +kernel) rfl rfl (by decide) rfl zq_49 zq_50 zq_51 (by decide +kernel) zMk_135 (by decide +kernel) (by decide +kernel) (by decide +kernel)
theorem zr_7_68 : zSnd 7 68 (o_aload 0 69) := zS_aload_n (i := 0) (by decide +kernel) rfl rfl
theorem zr_7_69 : zSnd 7 69 (o_getf 5 0 72) := zS_getf (idx := 12) (by decide +kernel) rfl (by decide) rfl (by decide) rfl zin_5 zq_38
theorem zr_7_72 : zSnd 7 72 (o_aload 0 73) := zS_aload_n (i := 0) (by decide +kernel) rfl rfl
theorem zr_7_73 : zSnd 7 73 (o_getf 5 1 76) := zS_getf (idx := 20) (by decide +kernel) rfl (by decide) rfl (by decide) rfl zin_5 zq_2
theorem zr_7_76 : zSnd 7 76 (o_getf 4 13 79) := zS_getfN (idx := 133) (by decide +kernel) rfl (by decide) rfl (by decide) rfl zin_4 zq_42
theorem zr_7_79 : zSnd 7 79 (o_callv 3 130 2 2 0 82) := zS_callVN (n := 1) (idx := 137) (by decide +kernel) rfl rfl (by decide) rfl zq_43 zq_44 zq_45 (by decide +kernel) zMk_130 (by decide +kernel) (by decide +kernel) (by decide +kernel)
theorem zr_7_82 : zSnd 7 82 (o_aload 0 83) := zS_aload_n (i := 0) (by decide +kernel) rfl rfl
theorem zr_7_83 : zSnd 7 83 (o_getf 5 1 86) := zS_getf (idx := 20) (by decide +kernel) rfl (by decide) rfl (by decide) rfl zin_5 zq_2
theorem zr_7_86 : zSnd 7 86 (o_aload 0 87) := zS_aload_n (i := 0) (by decide +kernel) rfl rfl
theorem zr_7_87 : zSnd 7 87 (o_getf 5 1 90) := zS_getf (idx := 20) (by decide +kernel) rfl (by decide) rfl (by decide) rfl zin_5 zq_2
theorem zr_7_90 : zSnd 7 90 (o_getf 4 13 93) := zS_getfN (idx := 133) (by decide +kernel) rfl (by decide) rfl (by decide) rfl zin_4 zq_42
theorem zr_7_93 : zSnd 7 93 (o_callv 4 161 2 4 1 96) := zS_callVN (n := 1) (idx := 141) (by decide +kernel) rfl rfl (by decide) rfl zq_46 zq_47 zq_48 (by decide +kernel) zMk_161 (by decide +kernel) (by decide +kernel) (by decide +kernel)
theorem zr_7_96 : zSnd 7 96 (o_iret) := zS_iret (by decide +kernel) (by decide +kernel)
theorem zT_7 (pc : Nat) : zSnd 7 pc (zc_7 pc) := by
  unfold zc_7
  exact (zSn_nd (zSn_nd (zSn_nd (zSn_nd (zSn_nd (zSn_lf zr_7_0) (zSn_lf zr_7_1)) (zSn_nd (zSn_lf zr_7_2) (zSn_lf zr_7_5))) (zSn_nd (zSn_nd (zSn_lf zr_7_8) (zSn_lf zr_7_11)) (zSn_nd (zSn_lf zr_7_12) (zSn_nd (zSn_lf zr_7_15) (zSn_lf zr_7_18))))) (zSn_nd (zSn_nd (zSn_nd (zSn_lf zr_7_28) (zSn_lf zr_7_29)) (zSn_nd (zSn_lf zr_7_32) (zSn_lf zr_7_35))) (zSn_nd (zSn_nd (zSn_lf zr_7_38) (zSn_lf zr_7_48)) (zSn_nd (zSn_lf zr_7_49) (zSn_nd (zSn_lf zr_7_52) (zSn_lf zr_7_53)))))) (zSn_nd (zSn_nd (zSn_nd (zSn_nd (zSn_lf zr_7_56) (zSn_lf zr_7_59)) (zSn_nd (zSn_lf zr_7_60) (zSn_lf zr_7_63))) (zSn_nd (zSn_nd (zSn_lf zr_7_64) (zSn_lf zr_7_65)) (zSn_nd (zSn_lf zr_7_68) (zSn_nd (zSn_lf zr_7_69) (zSn_lf zr_7_72))))) (zSn_nd (zSn_nd (zSn_nd (zSn_lf zr_7_73) (zSn_lf zr_7_76)) (zSn_nd (zSn_lf zr_7_79) (zSn_nd (zSn_lf zr_7_82) (zSn_lf zr_7_83)))) (zSn_nd (zSn_nd (zSn_lf zr_7_86) (zSn_lf zr_7_87)) (zSn_nd (zSn_lf zr_7_90) (zSn_nd (zSn_lf zr_7_93) (zSn_lf zr_7_96)))))))
theorem zr_8_0 : zSnd 8 0 (o_aload 0 1) := zS_aload_n (i := 0) (by decide +kernel) rfl rfl
theorem zr_8_1 : zSnd 8 1 (o_getf 5 1 4) := zS_getf (idx := 20) (by decide +kernel) rfl (by decide) rfl (by decide) rfl zin_5 zq_2
theorem zr_8_4 : zSnd 8 4 (o_getf 4 11 7) := zS_getfN (idx := 124) (by decide +kernel) rfl (by decide) rfl (by decide) rfl zin_4 zq_37
theorem zr_8_7 : zSnd 8 7 (o_ifne 20 10) := zS_ifne (by decide +kernel : decode (zmB 8) 7 = .ok (.ifCond .ne 13, 3)) rfl (by decide)
theorem zr_8_10 : zSnd 8 10 (o_thr 2) := zS_thr
theorem zr_8_20 : zSnd 8 20 (o_aload 0 21) := zS_aload_n (i := 0) (by decide +kernel) rfl rfl
theorem zr_8_21 : zSnd 8 21 (o_getf 5 2 24) := zS_getf (idx := 24) (by decide +kernel) rfl (by decide) rfl (by decide) rfl zin_5 zq_6
theorem zr_8_24 : zSnd 8 24 (o_aload 0 25) := zS_aload_n (i := 0) (by decide +kernel) rfl rfl
theorem zr_8_25 : zSnd 8 25 (o_getf 5 1 28) := zS_getf (idx := 20) (by decide +kernel) rfl (by decide) rfl (by decide) rfl zin_5 zq_2
theorem zr_8_28 : zSnd 8 28 (o_callv 1 117 2 2 0 31) := zS_callVN (n := 1) (idx := 46) (by decide +kernel) rfl rfl (by decide) rfl zq_7 zq_8 zq_9 (by decide +kernel) zMk_117 (by decide +kernel) (by decide +kernel) (by decide +kernel)
theorem zr_8_31 : zSnd 8 31 (o_aload 0 32) := zS_aload_n (i := 0) (by decide +kernel) rfl rfl
theorem zr_8_32 : zSnd 8 32 (o_getf 5 1 35) := zS_getf (idx := 20) (by decide +kernel) rfl (by decide) rfl (by decide) rfl zin_5 zq_2
theorem zr_8_35 : zSnd 8 35 (o_callv 4 168 1 5 1 38) := zS_callVN (n := 0) (idx := 151) (by decide +kernel) rfl rfl (by decide) rfl zq_52 zq_53 zq_54 (by decide +kernel) zMk_168 (by decide +kernel) (by decide +kernel) (by decide +kernel)
theorem zr_8_38 : zSnd 8 38 (o_iret) := zS_iret (by decide +kernel) (by decide +kernel)
theorem zT_8 (pc : Nat) : zSnd 8 pc (zc_8 pc) := by
  unfold zc_8
  exact (zSn_nd (zSn_nd (zSn_nd (zSn_lf zr_8_0) (zSn_nd (zSn_lf zr_8_1) (zSn_lf zr_8_4))) (zSn_nd (zSn_nd (zSn_lf zr_8_7) (zSn_lf zr_8_10)) (zSn_nd (zSn_lf zr_8_20) (zSn_lf zr_8_21)))) (zSn_nd (zSn_nd (zSn_lf zr_8_24) (zSn_nd (zSn_lf zr_8_25) (zSn_lf zr_8_28))) (zSn_nd (zSn_nd (zSn_lf zr_8_31) (zSn_lf zr_8_32)) (zSn_nd (zSn_lf zr_8_35) (zSn_lf zr_8_38)))))
theorem zr_9_0 : zSnd 9 0 (o_aload 0 1) := zS_aload_n (i := 0) (by decide +kernel) rfl rfl
theorem zr_9_1 : zSnd 9 1 (o_getf 5 1 4) := zS_getf (idx := 20) (by decide +kernel) rfl (by decide) rfl (by decide) rfl zin_5 zq_2
theorem zr_9_4 : zSnd 9 4 (o_iload 1 5) := zS_iload_n (i := 1) (by decide +kernel) rfl rfl
theorem zr_9_5 : zSnd 9 5 (o_callv 4 147 2 2 1 8) := zS_callVN (n := 1) (idx := 75) (by decide +kernel) rfl rfl (by decide) rfl zq_13 zq_14 zq_15 (by decide +kernel) zMk_147 (by decide +kernel) (by decide +kernel) (by decide +kernel)
theorem zr_9_8 : zSnd 9 8 (o_ifne 21 11) := zS_ifne (by decide +kernel : decode (zmB 9) 8 = .ok (.ifCond .ne 13, 3)) rfl (by decide)
theorem zr_9_11 : zSnd 9 11 (o_thr 3) := zS_thr
theorem zr_9_21 : zSnd 9 21 (o_iload 2 22) := zS_iload_n (i := 2) (by decide +kernel) rfl rfl
theorem zr_9_22 : zSnd 9 22 (o_const 1 23) := zS_iconst (by decide +kernel) rfl (by decide)
theorem zr_9_23 : zSnd 9 23 (o_const 99 25) := zS_bipush (by decide +kernel) rfl (by decide) (by decide)
theorem zr_9_25 : zSnd 9 25 (o_call 33 3 3 1 28) := zS_callS (idx := 35) (by decide +kernel) rfl zq_0 zq_1 (by decide +kernel) zMk_33 (by decide +kernel) (by decide +kernel) (by decide +kernel)
theorem zr_9_28 : zSnd 9 28 (o_ifne 41 31) := zS_ifne (by decide +kernel : decode (zmB 9) 28 = .ok (.ifCond .ne 13, 3)) rfl (by decide)
theorem zr_9_31 : zSnd 9 31 (o_thr 1) := zS_thr
theorem zr_9_41 : zSnd 9 41 (o_aload 0 42) := zS_aload_n (i := 0) (by decide +kernel) rfl rfl
theorem zr_9_42 : zSnd 9 42 (o_getf 5 1 45) := zS_getf (idx := 20) (by decide +kernel) rfl (by decide) rfl (by decide) rfl zin_5 zq_2
theorem zr_9_45 : zSnd 9 45 (o_getf 4 3 48) := zS_getfN (idx := 159) (by decide +kernel) rfl (by decide) rfl (by decide) rfl zin_4 zq_55
theorem zr_9_48 : zSnd 9 48 (o_iload 1 49) := zS_iload_n (i := 1) (by decide +kernel) rfl rfl
theorem zr_9_49 : zSnd 9 49 (o_iald 50) := zS_iald (by decide +kernel) rfl
theorem zr_9_50 : zSnd 9 50 (o_iload 2 51) := zS_iload_n (i := 2) (by decide +kernel) rfl rfl
theorem zr_9_51 : zSnd 9 51 (o_iadd 52) := zS_iadd (by decide +kernel) rfl
theorem zr_9_52 : zSnd 9 52 (o_const 999 55) := zS_sipush (by decide +kernel) rfl (by decide) (by decide)
theorem zr_9_55 : zSnd 9 55 (o_cle 68 58) := zS_cle (by decide +kernel : decode (zmB 9) 55 = .ok (.if_icmp .le 13, 3)) rfl (by decide)
theorem zr_9_58 : zSnd 9 58 (o_thr 2) := zS_thr
theorem zr_9_68 : zSnd 9 68 (o_aload 0 69) := zS_aload_n (i := 0) (by decide +kernel) rfl rfl
theorem zr_9_69 : zSnd 9 69 (o_getf 5 2 72) := zS_getf (idx := 24) (by decide +kernel) rfl (by decide) rfl (by decide) rfl zin_5 zq_6
theorem zr_9_72 : zSnd 9 72 (o_aload 0 73) := zS_aload_n (i := 0) (by decide +kernel) rfl rfl
theorem zr_9_73 : zSnd 9 73 (o_getf 5 1 76) := zS_getf (idx := 20) (by decide +kernel) rfl (by decide) rfl (by decide) rfl zin_5 zq_2
theorem zr_9_76 : zSnd 9 76 (o_callv 1 117 2 2 0 79) := zS_callVN (n := 1) (idx := 46) (by decide +kernel) rfl rfl (by decide) rfl zq_7 zq_8 zq_9 (by decide +kernel) zMk_117 (by decide +kernel) (by decide +kernel) (by decide +kernel)
theorem zr_9_79 : zSnd 9 79 (o_aload 0 80) := zS_aload_n (i := 0) (by decide +kernel) rfl rfl
theorem zr_9_80 : zSnd 9 80 (o_getf 5 1 83) := zS_getf (idx := 20) (by decide +kernel) rfl (by decide) rfl (by decide) rfl zin_5 zq_2
theorem zr_9_83 : zSnd 9 83 (o_getf 4 3 86) := zS_getfN (idx := 159) (by decide +kernel) rfl (by decide) rfl (by decide) rfl zin_4 zq_55
theorem zr_9_86 : zSnd 9 86 (o_iload 1 87) := zS_iload_n (i := 1) (by decide +kernel) rfl rfl
theorem zr_9_87 : zSnd 9 87 (o_dup2 88) := zS_dup2 (by decide +kernel) rfl
theorem zr_9_88 : zSnd 9 88 (o_iald 89) := zS_iald (by decide +kernel) rfl
theorem zr_9_89 : zSnd 9 89 (o_iload 2 90) := zS_iload_n (i := 2) (by decide +kernel) rfl rfl
theorem zr_9_90 : zSnd 9 90 (o_iadd 91) := zS_iadd (by decide +kernel) rfl
theorem zr_9_91 : zSnd 9 91 (o_iast 92) := zS_iast (by decide +kernel) rfl
theorem zr_9_92 : zSnd 9 92 (o_aload 0 93) := zS_aload_n (i := 0) (by decide +kernel) rfl rfl
theorem zr_9_93 : zSnd 9 93 (o_getf 5 1 96) := zS_getf (idx := 20) (by decide +kernel) rfl (by decide) rfl (by decide) rfl zin_5 zq_2
theorem zr_9_96 : zSnd 9 96 (o_dup 97) := zS_dup (by decide +kernel) rfl
theorem zr_9_97 : zSnd 9 97 (o_getf 4 14 100) := zS_getfN (idx := 164) (by decide +kernel) rfl (by decide) rfl (by decide) rfl zin_4 zq_56
theorem zr_9_100 : zSnd 9 100 (o_aload 0 101) := zS_aload_n (i := 0) (by decide +kernel) rfl rfl
theorem zr_9_101 : zSnd 9 101 (o_getf 5 1 104) := zS_getf (idx := 20) (by decide +kernel) rfl (by decide) rfl (by decide) rfl zin_5 zq_2
theorem zr_9_104 : zSnd 9 104 (o_getf 4 2 107) := zS_getfN (idx := 167) (by decide +kernel) rfl (by decide) rfl (by decide) rfl zin_4 zq_57
theorem zr_9_107 : zSnd 9 107 (o_iload 1 108) := zS_iload_n (i := 1) (by decide +kernel) rfl rfl
theorem zr_9_108 : zSnd 9 108 (o_iald 109) := zS_iald (by decide +kernel) rfl
theorem zr_9_109 : zSnd 9 109 (o_iload 2 110) := zS_iload_n (i := 2) (by decide +kernel) rfl rfl
theorem zr_9_110 : zSnd 9 110 (o_imul 111) := zS_imul (by decide +kernel) rfl
theorem zr_9_111 : zSnd 9 111 (o_iadd 112) := zS_iadd (by decide +kernel) rfl
theorem zr_9_112 : zSnd 9 112 (o_putf 4 14 115) := zS_putfN (idx := 164) (by decide +kernel) rfl (by decide) rfl (by decide) rfl zin_4 tyX3_ok nmX3 rfl (by decide +kernel) zq_56
theorem zr_9_115 : zSnd 9 115 (o_aload 0 116) := zS_aload_n (i := 0) (by decide +kernel) rfl rfl
theorem zr_9_116 : zSnd 9 116 (o_getf 5 1 119) := zS_getf (idx := 20) (by decide +kernel) rfl (by decide) rfl (by decide) rfl zin_5 zq_2
theorem zr_9_119 : zSnd 9 119 (o_getf 4 3 122) := zS_getfN (idx := 159) (by decide +kernel) rfl (by decide) rfl (by decide) rfl zin_4 zq_55
theorem zr_9_122 : zSnd 9 122 (o_iload 1 123) := zS_iload_n (i := 1) (by decide +kernel) rfl rfl
theorem zr_9_123 : zSnd 9 123 (o_iald 124) := zS_iald (by decide +kernel) rfl
theorem zr_9_124 : zSnd 9 124 (o_iret) := zS_iret (by decide +kernel) (by decide +kernel)
theorem zT_9 (pc : Nat) : zSnd 9 pc (zc_9 pc) := by
  unfold zc_9
  exact (zSn_nd (zSn_nd (zSn_nd (zSn_nd (zSn_nd (zSn_lf zr_9_0) (zSn_nd (zSn_lf zr_9_1) (zSn_lf zr_9_4))) (zSn_nd (zSn_lf zr_9_5) (zSn_nd (zSn_lf zr_9_8) (zSn_lf zr_9_11)))) (zSn_nd (zSn_nd (zSn_lf zr_9_21) (zSn_nd (zSn_lf zr_9_22) (zSn_lf zr_9_23))) (zSn_nd (zSn_nd (zSn_lf zr_9_25) (zSn_lf zr_9_28)) (zSn_nd (zSn_lf zr_9_31) (zSn_lf zr_9_41))))) (zSn_nd (zSn_nd (zSn_nd (zSn_lf zr_9_42) (zSn_nd (zSn_lf zr_9_45) (zSn_lf zr_9_48))) (zSn_nd (zSn_nd (zSn_lf zr_9_49) (zSn_lf zr_9_50)) (zSn_nd (zSn_lf zr_9_51) (zSn_lf zr_9_52)))) (zSn_nd (zSn_nd (zSn_lf zr_9_55) (zSn_nd (zSn_lf zr_9_58) (zSn_lf zr_9_68))) (zSn_nd (zSn_nd (zSn_lf zr_9_69) (zSn_lf zr_9_72)) (zSn_nd (zSn_lf zr_9_73) (zSn_lf zr_9_76)))))) (zSn_nd (zSn_nd (zSn_nd (zSn_nd (zSn_lf zr_9_79) (zSn_nd (zSn_lf zr_9_80) (zSn_lf zr_9_83))) (zSn_nd (zSn_nd (zSn_lf zr_9_86) (zSn_lf zr_9_87)) (zSn_nd (zSn_lf zr_9_88) (zSn_lf zr_9_89)))) (zSn_nd (zSn_nd (zSn_lf zr_9_90) (zSn_nd (zSn_lf zr_9_91) (zSn_lf zr_9_92))) (zSn_nd (zSn_nd (zSn_lf zr_9_93) (zSn_lf zr_9_96)) (zSn_nd (zSn_lf zr_9_97) (zSn_lf zr_9_100))))) (zSn_nd (zSn_nd (zSn_nd (zSn_lf zr_9_101) (zSn_nd (zSn_lf zr_9_104) (zSn_lf zr_9_107))) (zSn_nd (zSn_nd (zSn_lf zr_9_108) (zSn_lf zr_9_109)) (zSn_nd (zSn_lf zr_9_110) (zSn_lf zr_9_111)))) (zSn_nd (zSn_nd (zSn_lf zr_9_112) (zSn_nd (zSn_lf zr_9_115) (zSn_lf zr_9_116))) (zSn_nd (zSn_nd (zSn_lf zr_9_119) (zSn_lf zr_9_122)) (zSn_nd (zSn_lf zr_9_123) (zSn_lf zr_9_124)))))))
theorem zr_10_0 : zSnd 10 0 (o_aload 0 1) := zS_aload_n (i := 0) (by decide +kernel) rfl rfl
theorem zr_10_1 : zSnd 10 1 (o_getf 5 1 4) := zS_getf (idx := 20) (by decide +kernel) rfl (by decide) rfl (by decide) rfl zin_5 zq_2
theorem zr_10_4 : zSnd 10 4 (o_iload 1 5) := zS_iload_n (i := 1) (by decide +kernel) rfl rfl
theorem zr_10_5 : zSnd 10 5 (o_iload 2 6) := zS_iload_n (i := 2) (by decide +kernel) rfl rfl
theorem zr_10_6 : zSnd 10 6 (o_callv 4 148 3 3 1 9) := zS_callVN (n := 2) (idx := 170) (by decide +kernel) rfl rfl (by decide) rfl zq_58 zq_59 zq_60 (by decide +kernel) zMk_148 (by decide +kernel) (by decide +kernel) (by decide +kernel)
theorem zr_10_9 : zSnd 10 9 (o_ifne 22 12) := zS_ifne (by decide +kernel : decode (zmB 10) 9 = .ok (.ifCond .ne 13, 3)) rfl (by decide)
theorem zr_10_12 : zSnd 10 12 (o_thr 3) := zS_thr
theorem zr_10_22 : zSnd 10 22 (o_iload 1 23) := zS_iload_n (i := 1) (by decide +kernel) rfl rfl
theorem zr_10_23 : zSnd 10 23 (o_iload 2 24) := zS_iload_n (i := 2) (by decide +kernel) rfl rfl
theorem zr_10_24 : zSnd 10 24 (o_call 35 2 2 1 27) := zS_callS (idx := 176) (by decide +kernel) rfl zq_61 zq_62 (by decide +kernel) zMk_35 (by decide +kernel) (by decide +kernel) (by decide +kernel)
theorem zr_10_27 : zSnd 10 27 (o_istore 3 28) := zS_istore_n (i := 3) (by decide +kernel) rfl rfl (by decide +kernel)
theorem zr_10_28 : zSnd 10 28 (o_aload 0 29) := zS_aload_n (i := 0) (by decide +kernel) rfl rfl
theorem zr_10_29 : zSnd 10 29 (o_getf 5 1 32) := zS_getf (idx := 20) (by decide +kernel) rfl (by decide) rfl (by decide) rfl zin_5 zq_2
theorem zr_10_32 : zSnd 10 32 (o_getf 4 6 35) := zS_getfN (idx := 179) (by decide +kernel) rfl (by decide) rfl (by decide) rfl zin_4 zq_63
theorem zr_10_35 : zSnd 10 35 (o_iload 3 36) := zS_iload_n (i := 3) (by decide +kernel) rfl rfl
theorem zr_10_36 : zSnd 10 36 (o_iald 37) := zS_iald (by decide +kernel) rfl
theorem zr_10_37 : zSnd 10 37 (o_const 1 38) := zS_iconst (by decide +kernel) rfl (by decide)
theorem zr_10_38 : zSnd 10 38 (o_cgt 51 41) := zS_cgt (by decide +kernel : decode (zmB 10) 38 = .ok (.if_icmp .gt 13, 3)) rfl (by decide)
theorem zr_10_41 : zSnd 10 41 (o_thr 2) := zS_thr
theorem zr_10_51 : zSnd 10 51 (o_aload 0 52) := zS_aload_n (i := 0) (by decide +kernel) rfl rfl
theorem zr_10_52 : zSnd 10 52 (o_getf 5 2 55) := zS_getf (idx := 24) (by decide +kernel) rfl (by decide) rfl (by decide) rfl zin_5 zq_6
theorem zr_10_55 : zSnd 10 55 (o_aload 0 56) := zS_aload_n (i := 0) (by decide +kernel) rfl rfl
theorem zr_10_56 : zSnd 10 56 (o_getf 5 1 59) := zS_getf (idx := 20) (by decide +kernel) rfl (by decide) rfl (by decide) rfl zin_5 zq_2
theorem zr_10_59 : zSnd 10 59 (o_callv 1 117 2 2 0 62) := zS_callVN (n := 1) (idx := 46) (by decide +kernel) rfl rfl (by decide) rfl zq_7 zq_8 zq_9 (by decide +kernel) zMk_117 (by decide +kernel) (by decide +kernel) (by decide +kernel)
theorem zr_10_62 : zSnd 10 62 (o_aload 0 63) := zS_aload_n (i := 0) (by decide +kernel) rfl rfl
theorem zr_10_63 : zSnd 10 63 (o_getf 5 1 66) := zS_getf (idx := 20) (by decide +kernel) rfl (by decide) rfl (by decide) rfl zin_5 zq_2
theorem zr_10_66 : zSnd 10 66 (o_getf 4 6 69) := zS_getfN (idx := 179) (by decide +kernel) rfl (by decide) rfl (by decide) rfl zin_4 zq_63
theorem zr_10_69 : zSnd 10 69 (o_iload 3 70) := zS_iload_n (i := 3) (by decide +kernel) rfl rfl
theorem zr_10_70 : zSnd 10 70 (o_dup2 71) := zS_dup2 (by decide +kernel) rfl
theorem zr_10_71 : zSnd 10 71 (o_iald 72) := zS_iald (by decide +kernel) rfl
theorem zr_10_72 : zSnd 10 72 (o_const 1 73) := zS_iconst (by decide +kernel) rfl (by decide)
theorem zr_10_73 : zSnd 10 73 (o_isub 74) := zS_isub (by decide +kernel) rfl
theorem zr_10_74 : zSnd 10 74 (o_iast 75) := zS_iast (by decide +kernel) rfl
theorem zr_10_75 : zSnd 10 75 (o_aload 0 76) := zS_aload_n (i := 0) (by decide +kernel) rfl rfl
theorem zr_10_76 : zSnd 10 76 (o_getf 5 1 79) := zS_getf (idx := 20) (by decide +kernel) rfl (by decide) rfl (by decide) rfl zin_5 zq_2
theorem zr_10_79 : zSnd 10 79 (o_dup 80) := zS_dup (by decide +kernel) rfl
theorem zr_10_80 : zSnd 10 80 (o_getf 4 14 83) := zS_getfN (idx := 164) (by decide +kernel) rfl (by decide) rfl (by decide) rfl zin_4 zq_56
theorem zr_10_83 : zSnd 10 83 (o_const 3 84) := zS_iconst (by decide +kernel) rfl (by decide)
theorem zr_10_84 : zSnd 10 84 (o_iadd 85) := zS_iadd (by decide +kernel) rfl
theorem zr_10_85 : zSnd 10 85 (o_putf 4 14 88) := zS_putfN (idx := 164) (by decide +kernel) rfl (by decide) rfl (by decide) rfl zin_4 tyX3_ok nmX3 rfl (by decide +kernel) zq_56
theorem zr_10_88 : zSnd 10 88 (o_aload 0 89) := zS_aload_n (i := 0) (by decide +kernel) rfl rfl
theorem zr_10_89 : zSnd 10 89 (o_getf 5 1 92) := zS_getf (idx := 20) (by decide +kernel) rfl (by decide) rfl (by decide) rfl zin_5 zq_2
theorem zr_10_92 : zSnd 10 92 (o_const 0 93) := zS_iconst (by decide +kernel) rfl (by decide)
theorem zr_10_93 : zSnd 10 93 (o_putz 4 11 96) := zS_putzN (idx := 124) (by decide +kernel) rfl (by decide) rfl (by decide) rfl zin_4 tyX3_ok nmX3 rfl (by decide +kernel) zq_37
theorem zr_10_96 : zSnd 10 96 (o_aload 0 97) := zS_aload_n (i := 0) (by decide +kernel) rfl rfl
theorem zr_10_97 : zSnd 10 97 (o_getf 5 1 100) := zS_getf (idx := 20) (by decide +kernel) rfl (by decide) rfl (by decide) rfl zin_5 zq_2
theorem zr_10_100 : zSnd 10 100 (o_getf 4 6 103) := zS_getfN (idx := 179) (by decide +kernel) rfl (by decide) rfl (by decide) rfl zin_4 zq_63
theorem zr_10_103 : zSnd 10 103 (o_iload 3 104) := zS_iload_n (i := 3) (by decide +kernel) rfl rfl
theorem zr_10_104 : zSnd 10 104 (o_iald 105) := zS_iald (by decide +kernel) rfl
theorem zr_10_105 : zSnd 10 105 (o_iret) := zS_iret (by decide +kernel) (by decide +kernel)
theorem zT_10 (pc : Nat) : zSnd 10 pc (zc_10 pc) := by
  unfold zc_10
  exact (zSn_nd (zSn_nd (zSn_nd (zSn_nd (zSn_nd (zSn_lf zr_10_0) (zSn_nd (zSn_lf zr_10_1) (zSn_lf zr_10_4))) (zSn_nd (zSn_lf zr_10_5) (zSn_nd (zSn_lf zr_10_6) (zSn_lf zr_10_9)))) (zSn_nd (zSn_nd (zSn_lf zr_10_12) (zSn_nd (zSn_lf zr_10_22) (zSn_lf zr_10_23))) (zSn_nd (zSn_lf zr_10_24) (zSn_nd (zSn_lf zr_10_27) (zSn_lf zr_10_28))))) (zSn_nd (zSn_nd (zSn_nd (zSn_lf zr_10_29) (zSn_nd (zSn_lf zr_10_32) (zSn_lf zr_10_35))) (zSn_nd (zSn_lf zr_10_36) (zSn_nd (zSn_lf zr_10_37) (zSn_lf zr_10_38)))) (zSn_nd (zSn_nd (zSn_lf zr_10_41) (zSn_nd (zSn_lf zr_10_51) (zSn_lf zr_10_52))) (zSn_nd (zSn_nd (zSn_lf zr_10_55) (zSn_lf zr_10_56)) (zSn_nd (zSn_lf zr_10_59) (zSn_lf zr_10_62)))))) (zSn_nd (zSn_nd (zSn_nd (zSn_nd (zSn_lf zr_10_63) (zSn_nd (zSn_lf zr_10_66) (zSn_lf zr_10_69))) (zSn_nd (zSn_lf zr_10_70) (zSn_nd (zSn_lf zr_10_71) (zSn_lf zr_10_72)))) (zSn_nd (zSn_nd (zSn_lf zr_10_73) (zSn_nd (zSn_lf zr_10_74) (zSn_lf zr_10_75))) (zSn_nd (zSn_lf zr_10_76) (zSn_nd (zSn_lf zr_10_79) (zSn_lf zr_10_80))))) (zSn_nd (zSn_nd (zSn_nd (zSn_lf zr_10_83) (zSn_nd (zSn_lf zr_10_84) (zSn_lf zr_10_85))) (zSn_nd (zSn_lf zr_10_88) (zSn_nd (zSn_lf zr_10_89) (zSn_lf zr_10_92)))) (zSn_nd (zSn_nd (zSn_lf zr_10_93) (zSn_nd (zSn_lf zr_10_96) (zSn_lf zr_10_97))) (zSn_nd (zSn_nd (zSn_lf zr_10_100) (zSn_lf zr_10_103)) (zSn_nd (zSn_lf zr_10_104) (zSn_lf zr_10_105)))))))
theorem zr_11_0 : zSnd 11 0 (o_aload 0 1) := zS_aload_n (i := 0) (by decide +kernel) rfl rfl
theorem zr_11_1 : zSnd 11 1 (o_getf 5 1 4) := zS_getf (idx := 20) (by decide +kernel) rfl (by decide) rfl (by decide) rfl zin_5 zq_2
theorem zr_11_4 : zSnd 11 4 (o_iload 1 5) := zS_iload_n (i := 1) (by decide +kernel) rfl rfl
theorem zr_11_5 : zSnd 11 5 (o_callv 4 147 2 2 1 8) := zS_callVN (n := 1) (idx := 75) (by decide +kernel) rfl rfl (by decide) rfl zq_13 zq_14 zq_15 (by decide +kernel) zMk_147 (by decide +kernel) (by decide +kernel) (by decide +kernel)
theorem zr_11_8 : zSnd 11 8 (o_ifne 21 11) := zS_ifne (by decide +kernel : decode (zmB 11) 8 = .ok (.ifCond .ne 13, 3)) rfl (by decide)
theorem zr_11_11 : zSnd 11 11 (o_thr 3) := zS_thr
theorem zr_11_21 : zSnd 11 21 (o_iload 2 22) := zS_iload_n (i := 2) (by decide +kernel) rfl rfl
theorem zr_11_22 : zSnd 11 22 (o_const 0 23) := zS_iconst (by decide +kernel) rfl (by decide)
theorem zr_11_23 : zSnd 11 23 (o_const 5 24) := zS_iconst (by decide +kernel) rfl (by decide)
theorem zr_11_24 : zSnd 11 24 (o_call 33 3 3 1 27) := zS_callS (idx := 35) (by decide +kernel) rfl zq_0 zq_1 (by decide +kernel) zMk_33 (by decide +kernel) (by decide +kernel) (by decide +kernel)
theorem zr_11_27 : zSnd 11 27 (o_ifne 40 30) := zS_ifne (by decide +kernel : decode (zmB 11) 27 = .ok (.ifCond .ne 13, 3)) rfl (by decide)
theorem zr_11_30 : zSnd 11 30 (o_thr 1) := zS_thr
theorem zr_11_40 : zSnd 11 40 (o_iload 2 41) := zS_iload_n (i := 2) (by decide +kernel) rfl rfl
theorem zr_11_41 : zSnd 11 41 (o_sw [(0, 76), (1, 86), (2, 96), (3, 106), (4, 115)] 157) := zS_tsw (n := 5) (by decide +kernel : decode (zmB 11) 41 = .ok (.tableswitch 116 0 4 #[35, 45, 55, 65, 74], 35)) (by decide) (by decide +kernel) (by intro x hx; simp only [zsw]; (repeat' split) <;> omega) (by decide)
theorem zr_11_76 : zSnd 11 76 (o_aload 0 77) := zS_aload_n (i := 0) (by decide +kernel) rfl rfl
theorem zr_11_77 : zSnd 11 77 (o_getf 5 1 80) := zS_getf (idx := 20) (by decide +kernel) rfl (by decide) rfl (by decide) rfl zin_5 zq_2
theorem zr_11_80 : zSnd 11 80 (o_getf 4 2 83) := zS_getfN (idx := 167) (by decide +kernel) rfl (by decide) rfl (by decide) rfl zin_4 zq_57
theorem zr_11_83 : zSnd 11 83 (o_iload 1 84) := zS_iload_n (i := 1) (by decide +kernel) rfl rfl
theorem zr_11_84 : zSnd 11 84 (o_iald 85) := zS_iald (by decide +kernel) rfl
theorem zr_11_85 : zSnd 11 85 (o_iret) := zS_iret (by decide +kernel) (by decide +kernel)
theorem zr_11_86 : zSnd 11 86 (o_aload 0 87) := zS_aload_n (i := 0) (by decide +kernel) rfl rfl
theorem zr_11_87 : zSnd 11 87 (o_getf 5 1 90) := zS_getf (idx := 20) (by decide +kernel) rfl (by decide) rfl (by decide) rfl zin_5 zq_2
theorem zr_11_90 : zSnd 11 90 (o_getf 4 3 93) := zS_getfN (idx := 159) (by decide +kernel) rfl (by decide) rfl (by decide) rfl zin_4 zq_55
theorem zr_11_93 : zSnd 11 93 (o_iload 1 94) := zS_iload_n (i := 1) (by decide +kernel) rfl rfl
theorem zr_11_94 : zSnd 11 94 (o_iald 95) := zS_iald (by decide +kernel) rfl
theorem zr_11_95 : zSnd 11 95 (o_iret) := zS_iret (by decide +kernel) (by decide +kernel)
theorem zr_11_96 : zSnd 11 96 (o_aload 0 97) := zS_aload_n (i := 0) (by decide +kernel) rfl rfl
theorem zr_11_97 : zSnd 11 97 (o_getf 5 1 100) := zS_getf (idx := 20) (by decide +kernel) rfl (by decide) rfl (by decide) rfl zin_5 zq_2
theorem zr_11_100 : zSnd 11 100 (o_getf 4 4 103) := zS_getfN (idx := 186) (by decide +kernel) rfl (by decide) rfl (by decide) rfl zin_4 zq_64
theorem zr_11_103 : zSnd 11 103 (o_iload 1 104) := zS_iload_n (i := 1) (by decide +kernel) rfl rfl
theorem zr_11_104 : zSnd 11 104 (o_iald 105) := zS_iald (by decide +kernel) rfl
theorem zr_11_105 : zSnd 11 105 (o_iret) := zS_iret (by decide +kernel) (by decide +kernel)
theorem zr_11_106 : zSnd 11 106 (o_aload 0 107) := zS_aload_n (i := 0) (by decide +kernel) rfl rfl
theorem zr_11_107 : zSnd 11 107 (o_getf 5 1 110) := zS_getf (idx := 20) (by decide +kernel) rfl (by decide) rfl (by decide) rfl zin_5 zq_2
theorem zr_11_110 : zSnd 11 110 (o_iload 1 111) := zS_iload_n (i := 1) (by decide +kernel) rfl rfl
theorem zr_11_111 : zSnd 11 111 (o_callv 4 157 2 4 1 114) := zS_callVN (n := 1) (idx := 189) (by decide +kernel) rfl rfl (by decide) rfl zq_65 zq_66 zq_67 (by decide +kernel) zMk_157 (by decide +kernel) (by decide +kernel) (by decide +kernel)
theorem zr_11_114 : zSnd 11 114 (o_iret) := zS_iret (by decide +kernel) (by decide +kernel)
theorem zr_11_115 : zSnd 11 115 (o_aload 0 116) := zS_aload_n (i := 0) (by decide +kernel) rfl rfl
theorem zr_11_116 : zSnd 11 116 (o_getf 5 1 119) := zS_getf (idx := 20) (by decide +kernel) rfl (by decide) rfl (by decide) rfl zin_5 zq_2
theorem zr_11_119 : zSnd 11 119 (o_getf 4 11 122) := zS_getfN (idx := 124) (by decide +kernel) rfl (by decide) rfl (by decide) rfl zin_4 zq_37
theorem zr_11_122 : zSnd 11 122 (o_ifeq 155 125) := zS_ifeq (by decide +kernel : decode (zmB 11) 122 = .ok (.ifCond .eq 33, 3)) rfl (by decide)
theorem zr_11_125 : zSnd 11 125 (o_aload 0 126) := zS_aload_n (i := 0) (by decide +kernel) rfl rfl
theorem zr_11_126 : zSnd 11 126 (o_getf 5 1 129) := zS_getf (idx := 20) (by decide +kernel) rfl (by decide) rfl (by decide) rfl zin_5 zq_2
theorem zr_11_129 : zSnd 11 129 (o_getf 4 4 132) := zS_getfN (idx := 186) (by decide +kernel) rfl (by decide) rfl (by decide) rfl zin_4 zq_64
theorem zr_11_132 : zSnd 11 132 (o_iload 1 133) := zS_iload_n (i := 1) (by decide +kernel) rfl rfl
theorem zr_11_133 : zSnd 11 133 (o_iald 134) := zS_iald (by decide +kernel) rfl
theorem zr_11_134 : zSnd 11 134 (o_ifle 155 137) := zS_ifle (by decide +kernel : decode (zmB 11) 134 = .ok (.ifCond .le 21, 3)) rfl (by decide)
theorem zr_11_137 : zSnd 11 137 (o_aload 0 138) := zS_aload_n (i := 0) (by decide +kernel) rfl rfl
theorem zr_11_138 : zSnd 11 138 (o_getf 5 1 141) := zS_getf (idx := 20) (by decide +kernel) rfl (by decide) rfl (by decide) rfl zin_5 zq_2
theorem zr_11_141 : zSnd 11 141 (o_iload 1 142) := zS_iload_n (i := 1) (by decide +kernel) rfl rfl
theorem zr_11_142 : zSnd 11 142 (o_aload 0 143) := zS_aload_n (i := 0) (by decide +kernel) rfl rfl
theorem zr_11_143 : zSnd 11 143 (o_getf 5 1 146) := zS_getf (idx := 20) (by decide +kernel) rfl (by decide) rfl (by decide) rfl zin_5 zq_2
theorem zr_11_146 : zSnd 11 146 (o_getf 4 13 149) := zS_getfN (idx := 133) (by decide +kernel) rfl (by decide) rfl (by decide) rfl zin_4 zq_42
theorem zr_11_149 : zSnd 11 149 (o_callv 4 159 3 4 1 152) := zS_callVN (n := 2) (idx := 192) (by decide +kernel) rfl rfl (by decide) rfl zq_68 zq_69 zq_70 (by decide +kernel) zMk_159 (by decide +kernel) (by decide +kernel) (by decide +kernel)
theorem zr_11_152 : zSnd 11 152 (o_goto 156) := zS_goto (by decide +kernel : decode (zmB 11) 152 = .ok (.goto 4, 3)) (by decide)
theorem zr_11_155 : zSnd 11 155 (o_const (-1) 156) := zS_iconst (by decide +kernel) rfl (by decide)
theorem zr_11_156 : zSnd 11 156 (o_iret) := zS_iret (by decide +kernel) (by decide +kernel)
theorem zr_11_157 : zSnd 11 157 (o_aload 0 158) := zS_aload_n (i := 0) (by decide +kernel) rfl rfl
theorem zr_11_158 : zSnd 11 158 (o_getf 5 1 161) := zS_getf (idx := 20) (by decide +kernel) rfl (by decide) rfl (by decide) rfl zin_5 zq_2
theorem zr_11_161 : zSnd 11 161 (o_getf 4 11 164) := zS_getfN (idx := 124) (by decide +kernel) rfl (by decide) rfl (by decide) rfl zin_4 zq_37
theorem zr_11_164 : zSnd 11 164 (o_ifeq 185 167) := zS_ifeq (by decide +kernel : decode (zmB 11) 164 = .ok (.ifCond .eq 21, 3)) rfl (by decide)
theorem zr_11_167 : zSnd 11 167 (o_aload 0 168) := zS_aload_n (i := 0) (by decide +kernel) rfl rfl
theorem zr_11_168 : zSnd 11 168 (o_getf 5 1 171) := zS_getf (idx := 20) (by decide +kernel) rfl (by decide) rfl (by decide) rfl zin_5 zq_2
theorem zr_11_171 : zSnd 11 171 (o_iload 1 172) := zS_iload_n (i := 1) (by decide +kernel) rfl rfl
theorem zr_11_172 : zSnd 11 172 (o_aload 0 173) := zS_aload_n (i := 0) (by decide +kernel) rfl rfl
theorem zr_11_173 : zSnd 11 173 (o_getf 5 1 176) := zS_getf (idx := 20) (by decide +kernel) rfl (by decide) rfl (by decide) rfl zin_5 zq_2
theorem zr_11_176 : zSnd 11 176 (o_getf 4 13 179) := zS_getfN (idx := 133) (by decide +kernel) rfl (by decide) rfl (by decide) rfl zin_4 zq_42
theorem zr_11_179 : zSnd 11 179 (o_callv 4 160 3 3 1 182) := zS_callVN (n := 2) (idx := 196) (by decide +kernel) rfl rfl (by decide) rfl zq_71 zq_72 zq_73 (by decide +kernel) zMk_160 (by decide +kernel) (by decide +kernel) (by decide +kernel)
theorem zr_11_182 : zSnd 11 182 (o_goto 186) := zS_goto (by decide +kernel : decode (zmB 11) 182 = .ok (.goto 4, 3)) (by decide)
theorem zr_11_185 : zSnd 11 185 (o_const (-1) 186) := zS_iconst (by decide +kernel) rfl (by decide)
theorem zr_11_186 : zSnd 11 186 (o_iret) := zS_iret (by decide +kernel) (by decide +kernel)
theorem zT_11 (pc : Nat) : zSnd 11 pc (zc_11 pc) := by
  unfold zc_11
  exact (zSn_nd (zSn_nd (zSn_nd (zSn_nd (zSn_nd (zSn_nd (zSn_lf zr_11_0) (zSn_lf zr_11_1)) (zSn_nd (zSn_lf zr_11_4) (zSn_lf zr_11_5))) (zSn_nd (zSn_nd (zSn_lf zr_11_8) (zSn_lf zr_11_11)) (zSn_nd (zSn_lf zr_11_21) (zSn_lf zr_11_22)))) (zSn_nd (zSn_nd (zSn_nd (zSn_lf zr_11_23) (zSn_lf zr_11_24)) (zSn_nd (zSn_lf zr_11_27) (zSn_lf zr_11_30))) (zSn_nd (zSn_nd (zSn_lf zr_11_40) (zSn_lf zr_11_41)) (zSn_nd (zSn_lf zr_11_76) (zSn_nd (zSn_lf zr_11_77) (zSn_lf zr_11_80)))))) (zSn_nd (zSn_nd (zSn_nd (zSn_nd (zSn_lf zr_11_83) (zSn_lf zr_11_84)) (zSn_nd (zSn_lf zr_11_85) (zSn_lf zr_11_86))) (zSn_nd (zSn_nd (zSn_lf zr_11_87) (zSn_lf zr_11_90)) (zSn_nd (zSn_lf zr_11_93) (zSn_nd (zSn_lf zr_11_94) (zSn_lf zr_11_95))))) (zSn_nd (zSn_nd (zSn_nd (zSn_lf zr_11_96) (zSn_lf zr_11_97)) (zSn_nd (zSn_lf zr_11_100) (zSn_lf zr_11_103))) (zSn_nd (zSn_nd (zSn_lf zr_11_104) (zSn_lf zr_11_105)) (zSn_nd (zSn_lf zr_11_106) (zSn_nd (zSn_lf zr_11_107) (zSn_lf zr_11_110))))))) (zSn_nd (zSn_nd (zSn_nd (zSn_nd (zSn_nd (zSn_lf zr_11_111) (zSn_lf zr_11_114)) (zSn_nd (zSn_lf zr_11_115) (zSn_lf zr_11_116))) (zSn_nd (zSn_nd (zSn_lf zr_11_119) (zSn_lf zr_11_122)) (zSn_nd (zSn_lf zr_11_125) (zSn_nd (zSn_lf zr_11_126) (zSn_lf zr_11_129))))) (zSn_nd (zSn_nd (zSn_nd (zSn_lf zr_11_132) (zSn_lf zr_11_133)) (zSn_nd (zSn_lf zr_11_134) (zSn_lf zr_11_137))) (zSn_nd (zSn_nd (zSn_lf zr_11_138) (zSn_lf zr_11_141)) (zSn_nd (zSn_lf zr_11_142) (zSn_nd (zSn_lf zr_11_143) (zSn_lf zr_11_146)))))) (zSn_nd (zSn_nd (zSn_nd (zSn_nd (zSn_lf zr_11_149) (zSn_lf zr_11_152)) (zSn_nd (zSn_lf zr_11_155) (zSn_lf zr_11_156))) (zSn_nd (zSn_nd (zSn_lf zr_11_157) (zSn_lf zr_11_158)) (zSn_nd (zSn_lf zr_11_161) (zSn_nd (zSn_lf zr_11_164) (zSn_lf zr_11_167))))) (zSn_nd (zSn_nd (zSn_nd (zSn_lf zr_11_168) (zSn_lf zr_11_171)) (zSn_nd (zSn_lf zr_11_172) (zSn_lf zr_11_173))) (zSn_nd (zSn_nd (zSn_lf zr_11_176) (zSn_lf zr_11_179)) (zSn_nd (zSn_lf zr_11_182) (zSn_nd (zSn_lf zr_11_185) (zSn_lf zr_11_186))))))))
theorem zr_12_0 : zSnd 12 0 (o_aload 0 1) := zS_aload_n (i := 0) (by decide +kernel) rfl rfl
theorem zr_12_1 : zSnd 12 1 (o_getf 5 1 4) := zS_getf (idx := 20) (by decide +kernel) rfl (by decide) rfl (by decide) rfl zin_5 zq_2
theorem zr_12_4 : zSnd 12 4 (o_iload 1 5) := zS_iload_n (i := 1) (by decide +kernel) rfl rfl
theorem zr_12_5 : zSnd 12 5 (o_iload 2 6) := zS_iload_n (i := 2) (by decide +kernel) rfl rfl
theorem zr_12_6 : zSnd 12 6 (o_callv 4 148 3 3 1 9) := zS_callVN (n := 2) (idx := 170) (by decide +kernel) rfl rfl (by decide) rfl zq_58 zq_59 zq_60 (by decide +kernel) zMk_148 (by decide +kernel) (by decide +kernel) (by decide +kernel)
theorem zr_12_9 : zSnd 12 9 (o_ifne 22 12) := zS_ifne (by decide +kernel : decode (zmB 12) 9 = .ok (.ifCond .ne 13, 3)) rfl (by decide)
theorem zr_12_12 : zSnd 12 12 (o_thr 3) := zS_thr
theorem zr_12_22 : zSnd 12 22 (o_iload 3 23) := zS_iload_n (i := 3) (by decide +kernel) rfl rfl
theorem zr_12_23 : zSnd 12 23 (o_const 0 24) := zS_iconst (by decide +kernel) rfl (by decide)
theorem zr_12_24 : zSnd 12 24 (o_const 4 25) := zS_iconst (by decide +kernel) rfl (by decide)
theorem zr_12_25 : zSnd 12 25 (o_call 33 3 3 1 28) := zS_callS (idx := 35) (by decide +kernel) rfl zq_0 zq_1 (by decide +kernel) zMk_33 (by decide +kernel) (by decide +kernel) (by decide +kernel)
theorem zr_12_28 : zSnd 12 28 (o_ifne 41 31) := zS_ifne (by decide +kernel : decode (zmB 12) 28 = .ok (.ifCond .ne 13, 3)) rfl (by decide)
theorem zr_12_31 : zSnd 12 31 (o_thr 1) := zS_thr
theorem zr_12_41 : zSnd 12 41 (o_iload 1 42) := zS_iload_n (i := 1) (by decide +kernel) rfl rfl
theorem zr_12_42 : zSnd 12 42 (o_iload 2 43) := zS_iload_n (i := 2) (by decide +kernel) rfl rfl
theorem zr_12_43 : zSnd 12 43 (o_call 35 2 2 1 46) := zS_callS (idx := 176) (by decide +kernel) rfl zq_61 zq_62 (by decide +kernel) zMk_35 (by decide +kernel) (by decide +kernel) (by decide +kernel)
theorem zr_12_46 : zSnd 12 46 (o_istore 4 48) := zS_istore (by decide +kernel) rfl (by decide +kernel)
theorem zr_12_48 : zSnd 12 48 (o_iload 3 49) := zS_iload_n (i := 3) (by decide +kernel) rfl rfl
theorem zr_12_49 : zSnd 12 49 (o_ifne 63 52) := zS_ifne (by decide +kernel : decode (zmB 12) 49 = .ok (.ifCond .ne 14, 3)) rfl (by decide)
theorem zr_12_52 : zSnd 12 52 (o_aload 0 53) := zS_aload_n (i := 0) (by decide +kernel) rfl rfl
theorem zr_12_53 : zSnd 12 53 (o_getf 5 1 56) := zS_getf (idx := 20) (by decide +kernel) rfl (by decide) rfl (by decide) rfl zin_5 zq_2
theorem zr_12_56 : zSnd 12 56 (o_getf 4 5 59) := zS_getfN (idx := 201) (by decide +kernel) rfl (by decide) rfl (by decide) rfl zin_4 zq_74
theorem zr_12_59 : zSnd 12 59 (o_iload 4 61) := zS_iload (by decide +kernel) rfl
theorem zr_12_61 : zSnd 12 61 (o_iald 62) := zS_iald (by decide +kernel) rfl
theorem zr_12_62 : zSnd 12 62 (o_iret) := zS_iret (by decide +kernel) (by decide +kernel)
theorem zr_12_63 : zSnd 12 63 (o_iload 3 64) := zS_iload_n (i := 3) (by decide +kernel) rfl rfl
theorem zr_12_64 : zSnd 12 64 (o_const 1 65) := zS_iconst (by decide +kernel) rfl (by decide)
theorem zr_12_65 : zSnd 12 65 (o_cne 79 68) := zS_cne (by decide +kernel : decode (zmB 12) 65 = .ok (.if_icmp .ne 14, 3)) rfl (by decide)
theorem zr_12_68 : zSnd 12 68 (o_aload 0 69) := zS_aload_n (i := 0) (by decide +kernel) rfl rfl
theorem zr_12_69 : zSnd 12 69 (o_getf 5 1 72) := zS_getf (idx := 20) (by decide +kernel) rfl (by decide) rfl (by decide) rfl zin_5 zq_2
theorem zr_12_72 : zSnd 12 72 (o_getf 4 6 75) := zS_getfN (idx := 179) (by decide +kernel) rfl (by decide) rfl (by decide) rfl zin_4 zq_63
theorem zr_12_75 : zSnd 12 75 (o_iload 4 77) := zS_iload (by decide +kernel) rfl
theorem zr_12_77 : zSnd 12 77 (o_iald 78) := zS_iald (by decide +kernel) rfl
theorem zr_12_78 : zSnd 12 78 (o_iret) := zS_iret (by decide +kernel) (by decide +kernel)
theorem zr_12_79 : zSnd 12 79 (o_aload 0 80) := zS_aload_n (i := 0) (by decide +kernel) rfl rfl
theorem zr_12_80 : zSnd 12 80 (o_getf 5 1 83) := zS_getf (idx := 20) (by decide +kernel) rfl (by decide) rfl (by decide) rfl zin_5 zq_2
theorem zr_12_83 : zSnd 12 83 (o_getf 4 11 86) := zS_getfN (idx := 124) (by decide +kernel) rfl (by decide) rfl (by decide) rfl zin_4 zq_37
theorem zr_12_86 : zSnd 12 86 (o_ifne 91 89) := zS_ifne (by decide +kernel : decode (zmB 12) 86 = .ok (.ifCond .ne 5, 3)) rfl (by decide)
theorem zr_12_89 : zSnd 12 89 (o_const (-1) 90) := zS_iconst (by decide +kernel) rfl (by decide)
theorem zr_12_90 : zSnd 12 90 (o_iret) := zS_iret (by decide +kernel) (by decide +kernel)
theorem zr_12_91 : zSnd 12 91 (o_iload 3 92) := zS_iload_n (i := 3) (by decide +kernel) rfl rfl
theorem zr_12_92 : zSnd 12 92 (o_const 2 93) := zS_iconst (by decide +kernel) rfl (by decide)
theorem zr_12_93 : zSnd 12 93 (o_cne 107 96) := zS_cne (by decide +kernel : decode (zmB 12) 93 = .ok (.if_icmp .ne 14, 3)) rfl (by decide)
theorem zr_12_96 : zSnd 12 96 (o_aload 0 97) := zS_aload_n (i := 0) (by decide +kernel) rfl rfl
theorem zr_12_97 : zSnd 12 97 (o_getf 5 1 100) := zS_getf (idx := 20) (by decide +kernel) rfl (by decide) rfl (by decide) rfl zin_5 zq_2
theorem zr_12_100 : zSnd 12 100 (o_getf 4 12 103) := zS_getfN (idx := 204) (by decide +kernel) rfl (by decide) rfl (by decide) rfl zin_4 zq_75
theorem zr_12_103 : zSnd 12 103 (o_iload 4 105) := zS_iload (by decide +kernel) rfl
theorem zr_12_105 : zSnd 12 105 (o_iald 106) := zS_iald (by decide +kernel) rfl
theorem zr_12_106 : zSnd 12 106 (o_iret) := zS_iret (by decide +kernel) (by decide +kernel)
theorem zr_12_107 : zSnd 12 107 (o_iload 3 108) := zS_iload_n (i := 3) (by decide +kernel) rfl rfl
theorem zr_12_108 : zSnd 12 108 (o_const 3 109) := zS_iconst (by decide +kernel) rfl (by decide)
theorem zr_12_109 : zSnd 12 109 (o_cne 123 112) := zS_cne (by decide +kernel : decode (zmB 12) 109 = .ok (.if_icmp .ne 14, 3)) rfl (by decide)
theorem zr_12_112 : zSnd 12 112 (o_aload 0 113) := zS_aload_n (i := 0) (by decide +kernel) rfl rfl
theorem zr_12_113 : zSnd 12 113 (o_getf 5 1 116) := zS_getf (idx := 20) (by decide +kernel) rfl (by decide) rfl (by decide) rfl zin_5 zq_2
theorem zr_12_116 : zSnd 12 116 (o_getf 4 13 119) := zS_getfN (idx := 133) (by decide +kernel) rfl (by decide) rfl (by decide) rfl zin_4 zq_42
theorem zr_12_119 : zSnd 12 119 (o_iload 4 121) := zS_iload (by decide +kernel) rfl
theorem zr_12_121 : zSnd 12 121 (o_iald 122) := zS_iald (by decide +kernel) rfl
theorem zr_12_122 : zSnd 12 122 (o_iret) := zS_iret (by decide +kernel) (by decide +kernel)
theorem zr_12_123 : zSnd 12 123 (o_aload 0 124) := zS_aload_n (i := 0) (by decide +kernel) rfl rfl
theorem zr_12_124 : zSnd 12 124 (o_getf 5 1 127) := zS_getf (idx := 20) (by decide +kernel) rfl (by decide) rfl (by decide) rfl zin_5 zq_2
theorem zr_12_127 : zSnd 12 127 (o_iload 4 129) := zS_iload (by decide +kernel) rfl
theorem zr_12_129 : zSnd 12 129 (o_aload 0 130) := zS_aload_n (i := 0) (by decide +kernel) rfl rfl
theorem zr_12_130 : zSnd 12 130 (o_getf 5 1 133) := zS_getf (idx := 20) (by decide +kernel) rfl (by decide) rfl (by decide) rfl zin_5 zq_2
theorem zr_12_133 : zSnd 12 133 (o_getf 4 13 136) := zS_getfN (idx := 133) (by decide +kernel) rfl (by decide) rfl (by decide) rfl zin_4 zq_42
theorem zr_12_136 : zSnd 12 136 (o_iload 4 138) := zS_iload (by decide +kernel) rfl
theorem zr_12_138 : zSnd 12 138 (o_iald 139) := zS_iald (by decide +kernel) rfl
theorem zr_12_139 : zSnd 12 139 (o_callv 4 164 3 4 1 142) := zS_callVN (n := 2) (idx := 207) (by decide +kernel) rfl rfl (by decide) rfl zq_76 zq_77 zq_78 (by decide +kernel) zMk_164 (by decide +kernel) (by decide +kernel) (by decide +kernel)
theorem zr_12_142 : zSnd 12 142 (o_ifeq 149 145) := zS_ifeq (by decide +kernel : decode (zmB 12) 142 = .ok (.ifCond .eq 7, 3)) rfl (by decide)
theorem zr_12_145 : zSnd 12 145 (o_const 1 146) := zS_iconst (by decide +kernel) rfl (by decide)
theorem zr_12_146 : zSnd 12 146 (o_goto 150) := zS_goto (by decide +kernel : decode (zmB 12) 146 = .ok (.goto 4, 3)) (by decide)
theorem zr_12_149 : zSnd 12 149 (o_const 0 150) := zS_iconst (by decide +kernel) rfl (by decide)
theorem zr_12_150 : zSnd 12 150 (o_iret) := zS_iret (by decide +kernel) (by decide +kernel)
theorem zT_12 (pc : Nat) : zSnd 12 pc (zc_12 pc) := by
  unfold zc_12
  exact (zSn_nd (zSn_nd (zSn_nd (zSn_nd (zSn_nd (zSn_nd (zSn_lf zr_12_0) (zSn_lf zr_12_1)) (zSn_nd (zSn_lf zr_12_4) (zSn_lf zr_12_5))) (zSn_nd (zSn_nd (zSn_lf zr_12_6) (zSn_lf zr_12_9)) (zSn_nd (zSn_lf zr_12_12) (zSn_nd (zSn_lf zr_12_22) (zSn_lf zr_12_23))))) (zSn_nd (zSn_nd (zSn_nd (zSn_lf zr_12_24) (zSn_lf zr_12_25)) (zSn_nd (zSn_lf zr_12_28) (zSn_lf zr_12_31))) (zSn_nd (zSn_nd (zSn_lf zr_12_41) (zSn_lf zr_12_42)) (zSn_nd (zSn_lf zr_12_43) (zSn_nd (zSn_lf zr_12_46) (zSn_lf zr_12_48)))))) (zSn_nd (zSn_nd (zSn_nd (zSn_nd (zSn_lf zr_12_49) (zSn_lf zr_12_52)) (zSn_nd (zSn_lf zr_12_53) (zSn_lf zr_12_56))) (zSn_nd (zSn_nd (zSn_lf zr_12_59) (zSn_lf zr_12_61)) (zSn_nd (zSn_lf zr_12_62) (zSn_nd (zSn_lf zr_12_63) (zSn_lf zr_12_64))))) (zSn_nd (zSn_nd (zSn_nd (zSn_lf zr_12_65) (zSn_lf zr_12_68)) (zSn_nd (zSn_lf zr_12_69) (zSn_lf zr_12_72))) (zSn_nd (zSn_nd (zSn_lf zr_12_75) (zSn_lf zr_12_77)) (zSn_nd (zSn_lf zr_12_78) (zSn_nd (zSn_lf zr_12_79) (zSn_lf zr_12_80))))))) (zSn_nd (zSn_nd (zSn_nd (zSn_nd (zSn_nd (zSn_lf zr_12_83) (zSn_lf zr_12_86)) (zSn_nd (zSn_lf zr_12_89) (zSn_lf zr_12_90))) (zSn_nd (zSn_nd (zSn_lf zr_12_91) (zSn_lf zr_12_92)) (zSn_nd (zSn_lf zr_12_93) (zSn_nd (zSn_lf zr_12_96) (zSn_lf zr_12_97))))) (zSn_nd (zSn_nd (zSn_nd (zSn_lf zr_12_100) (zSn_lf zr_12_103)) (zSn_nd (zSn_lf zr_12_105) (zSn_lf zr_12_106))) (zSn_nd (zSn_nd (zSn_lf zr_12_107) (zSn_lf zr_12_108)) (zSn_nd (zSn_lf zr_12_109) (zSn_nd (zSn_lf zr_12_112) (zSn_lf zr_12_113)))))) (zSn_nd (zSn_nd (zSn_nd (zSn_nd (zSn_lf zr_12_116) (zSn_lf zr_12_119)) (zSn_nd (zSn_lf zr_12_121) (zSn_lf zr_12_122))) (zSn_nd (zSn_nd (zSn_lf zr_12_123) (zSn_lf zr_12_124)) (zSn_nd (zSn_lf zr_12_127) (zSn_nd (zSn_lf zr_12_129) (zSn_lf zr_12_130))))) (zSn_nd (zSn_nd (zSn_nd (zSn_lf zr_12_133) (zSn_lf zr_12_136)) (zSn_nd (zSn_lf zr_12_138) (zSn_lf zr_12_139))) (zSn_nd (zSn_nd (zSn_lf zr_12_142) (zSn_lf zr_12_145)) (zSn_nd (zSn_lf zr_12_146) (zSn_nd (zSn_lf zr_12_149) (zSn_lf zr_12_150))))))))
theorem zr_14_0 : zSnd 14 0 (o_iload 1 1) := zS_iload_n (i := 1) (by decide +kernel) rfl rfl
theorem zr_14_1 : zSnd 14 1 (o_const 0 2) := zS_iconst (by decide +kernel) rfl (by decide)
theorem zr_14_2 : zSnd 14 2 (o_const 9 4) := zS_bipush (by decide +kernel) rfl (by decide) (by decide)
theorem zr_14_4 : zSnd 14 4 (o_call 33 3 3 1 7) := zS_callS (idx := 35) (by decide +kernel) rfl zq_0 zq_1 (by decide +kernel) zMk_33 (by decide +kernel) (by decide +kernel) (by decide +kernel)
theorem zr_14_7 : zSnd 14 7 (o_ifne 20 10) := zS_ifne (by decide +kernel : decode (zmB 14) 7 = .ok (.ifCond .ne 13, 3)) rfl (by decide)
theorem zr_14_10 : zSnd 14 10 (o_thr 1) := zS_thr
theorem zr_14_20 : zSnd 14 20 (o_iload 1 21) := zS_iload_n (i := 1) (by decide +kernel) rfl rfl
theorem zr_14_21 : zSnd 14 21 (o_sw [(0, 60), (1, 68), (2, 76), (3, 84), (4, 92), (5, 108)] 116) := zS_tsw (n := 6) (by decide +kernel : decode (zmB 14) 21 = .ok (.tableswitch 95 0 5 #[39, 47, 55, 63, 71, 87], 39)) (by decide) (by decide +kernel) (by intro x hx; simp only [zsw]; (repeat' split) <;> omega) (by decide)
theorem zr_14_60 : zSnd 14 60 (o_aload 0 61) := zS_aload_n (i := 0) (by decide +kernel) rfl rfl
theorem zr_14_61 : zSnd 14 61 (o_getf 5 1 64) := zS_getf (idx := 20) (by decide +kernel) rfl (by decide) rfl (by decide) rfl zin_5 zq_2
theorem zr_14_64 : zSnd 14 64 (o_getf 4 0 67) := zS_getfN (idx := 228) (by decide +kernel) rfl (by decide) rfl (by decide) rfl zin_4 zq_79
theorem zr_14_67 : zSnd 14 67 (o_iret) := zS_iret (by decide +kernel) (by decide +kernel)
theorem zr_14_68 : zSnd 14 68 (o_aload 0 69) := zS_aload_n (i := 0) (by decide +kernel) rfl rfl
theorem zr_14_69 : zSnd 14 69 (o_getf 5 1 72) := zS_getf (idx := 20) (by decide +kernel) rfl (by decide) rfl (by decide) rfl zin_5 zq_2
theorem zr_14_72 : zSnd 14 72 (o_getf 4 1 75) := zS_getfN (idx := 50) (by decide +kernel) rfl (by decide) rfl (by decide) rfl zin_4 zq_80
theorem zr_14_75 : zSnd 14 75 (o_iret) := zS_iret (by decide +kernel) (by decide +kernel)
theorem zr_14_76 : zSnd 14 76 (o_aload 0 77) := zS_aload_n (i := 0) (by decide +kernel) rfl rfl
theorem zr_14_77 : zSnd 14 77 (o_getf 5 1 80) := zS_getf (idx := 20) (by decide +kernel) rfl (by decide) rfl (by decide) rfl zin_5 zq_2
theorem zr_14_80 : zSnd 14 80 (o_callv 4 156 1 3 1 83) := zS_callVN (n := 0) (idx := 231) (by decide +kernel) rfl rfl (by decide) rfl zq_81 zq_82 zq_83 (by decide +kernel) zMk_156 (by decide +kernel) (by decide +kernel) (by decide +kernel)
theorem zr_14_83 : zSnd 14 83 (o_iret) := zS_iret (by decide +kernel) (by decide +kernel)
theorem zr_14_84 : zSnd 14 84 (o_aload 0 85) := zS_aload_n (i := 0) (by decide +kernel) rfl rfl
theorem zr_14_85 : zSnd 14 85 (o_getf 5 1 88) := zS_getf (idx := 20) (by decide +kernel) rfl (by decide) rfl (by decide) rfl zin_5 zq_2
theorem zr_14_88 : zSnd 14 88 (o_getf 4 7 91) := zS_getfN (idx := 110) (by decide +kernel) rfl (by decide) rfl (by decide) rfl zin_4 zq_31
theorem zr_14_91 : zSnd 14 91 (o_iret) := zS_iret (by decide +kernel) (by decide +kernel)
theorem zr_14_92 : zSnd 14 92 (o_aload 0 93) := zS_aload_n (i := 0) (by decide +kernel) rfl rfl
theorem zr_14_93 : zSnd 14 93 (o_getf 5 1 96) := zS_getf (idx := 20) (by decide +kernel) rfl (by decide) rfl (by decide) rfl zin_5 zq_2
theorem zr_14_96 : zSnd 14 96 (o_getf 4 11 99) := zS_getfN (idx := 124) (by decide +kernel) rfl (by decide) rfl (by decide) rfl zin_4 zq_37
theorem zr_14_99 : zSnd 14 99 (o_ifeq 106 102) := zS_ifeq (by decide +kernel : decode (zmB 14) 99 = .ok (.ifCond .eq 7, 3)) rfl (by decide)
theorem zr_14_102 : zSnd 14 102 (o_const 1 103) := zS_iconst (by decide +kernel) rfl (by decide)
theorem zr_14_103 : zSnd 14 103 (o_goto 107) := zS_goto (by decide +kernel : decode (zmB 14) 103 = .ok (.goto 4, 3)) (by decide)
theorem zr_14_106 : zSnd 14 106 (o_const 0 107) := zS_iconst (by decide +kernel) rfl (by decide)
theorem zr_14_107 : zSnd 14 107 (o_iret) := zS_iret (by decide +kernel) (by decide +kernel)
theorem zr_14_108 : zSnd 14 108 (o_aload 0 109) := zS_aload_n (i := 0) (by decide +kernel) rfl rfl
theorem zr_14_109 : zSnd 14 109 (o_getf 5 1 112) := zS_getf (idx := 20) (by decide +kernel) rfl (by decide) rfl (by decide) rfl zin_5 zq_2
theorem zr_14_112 : zSnd 14 112 (o_getf 4 14 115) := zS_getfN (idx := 164) (by decide +kernel) rfl (by decide) rfl (by decide) rfl zin_4 zq_56
theorem zr_14_115 : zSnd 14 115 (o_iret) := zS_iret (by decide +kernel) (by decide +kernel)
theorem zr_14_116 : zSnd 14 116 (o_aload 0 117) := zS_aload_n (i := 0) (by decide +kernel) rfl rfl
theorem zr_14_117 : zSnd 14 117 (o_getf 5 1 120) := zS_getf (idx := 20) (by decide +kernel) rfl (by decide) rfl (by decide) rfl zin_5 zq_2
theorem zr_14_120 : zSnd 14 120 (o_getf 4 11 123) := zS_getfN (idx := 124) (by decide +kernel) rfl (by decide) rfl (by decide) rfl zin_4 zq_37
theorem zr_14_123 : zSnd 14 123 (o_ifeq 134 126) := zS_ifeq (by decide +kernel : decode (zmB 14) 123 = .ok (.ifCond .eq 11, 3)) rfl (by decide)
theorem zr_14_126 : zSnd 14 126 (o_aload 0 127) := zS_aload_n (i := 0) (by decide +kernel) rfl rfl
theorem zr_14_127 : zSnd 14 127 (o_iload 1 128) := zS_iload_n (i := 1) (by decide +kernel) rfl rfl
theorem zr_14_128 : zSnd 14 128 (o_callv 5 29 2 2 1 131) := zS_callV (n := 1) (idx := 234) (by decide +kernel) rfl rfl (by decide) rfl zq_84 zq_85 zq_86 (by decide +kernel) zMk_29 (by decide +kernel) (by decide +kernel) (by decide +kernel)
theorem zr_14_131 : zSnd 14 131 (o_goto 135) := zS_goto (by decide +kernel : decode (zmB 14) 131 = .ok (.goto 4, 3)) (by decide)
theorem zr_14_134 : zSnd 14 134 (o_const (-1) 135) := zS_iconst (by decide +kernel) rfl (by decide)
theorem zr_14_135 : zSnd 14 135 (o_iret) := zS_iret (by decide +kernel) (by decide +kernel)
theorem zT_14 (pc : Nat) : zSnd 14 pc (zc_14 pc) := by
  unfold zc_14
  exact (zSn_nd (zSn_nd (zSn_nd (zSn_nd (zSn_nd (zSn_lf zr_14_0) (zSn_lf zr_14_1)) (zSn_nd (zSn_lf zr_14_2) (zSn_nd (zSn_lf zr_14_4) (zSn_lf zr_14_7)))) (zSn_nd (zSn_nd (zSn_lf zr_14_10) (zSn_nd (zSn_lf zr_14_20) (zSn_lf zr_14_21))) (zSn_nd (zSn_lf zr_14_60) (zSn_nd (zSn_lf zr_14_61) (zSn_lf zr_14_64))))) (zSn_nd (zSn_nd (zSn_nd (zSn_lf zr_14_67) (zSn_nd (zSn_lf zr_14_68) (zSn_lf zr_14_69))) (zSn_nd (zSn_lf zr_14_72) (zSn_nd (zSn_lf zr_14_75) (zSn_lf zr_14_76)))) (zSn_nd (zSn_nd (zSn_lf zr_14_77) (zSn_nd (zSn_lf zr_14_80) (zSn_lf zr_14_83))) (zSn_nd (zSn_lf zr_14_84) (zSn_nd (zSn_lf zr_14_85) (zSn_lf zr_14_88)))))) (zSn_nd (zSn_nd (zSn_nd (zSn_nd (zSn_lf zr_14_91) (zSn_lf zr_14_92)) (zSn_nd (zSn_lf zr_14_93) (zSn_nd (zSn_lf zr_14_96) (zSn_lf zr_14_99)))) (zSn_nd (zSn_nd (zSn_lf zr_14_102) (zSn_nd (zSn_lf zr_14_103) (zSn_lf zr_14_106))) (zSn_nd (zSn_lf zr_14_107) (zSn_nd (zSn_lf zr_14_108) (zSn_lf zr_14_109))))) (zSn_nd (zSn_nd (zSn_nd (zSn_lf zr_14_112) (zSn_nd (zSn_lf zr_14_115) (zSn_lf zr_14_116))) (zSn_nd (zSn_lf zr_14_117) (zSn_nd (zSn_lf zr_14_120) (zSn_lf zr_14_123)))) (zSn_nd (zSn_nd (zSn_lf zr_14_126) (zSn_nd (zSn_lf zr_14_127) (zSn_lf zr_14_128))) (zSn_nd (zSn_lf zr_14_131) (zSn_nd (zSn_lf zr_14_134) (zSn_lf zr_14_135)))))))
theorem zr_15_0 : zSnd 15 0 (o_aload 0 1) := zS_aload_n (i := 0) (by decide +kernel) rfl rfl
theorem zr_15_1 : zSnd 15 1 (o_getf 5 1 4) := zS_getf (idx := 20) (by decide +kernel) rfl (by decide) rfl (by decide) rfl zin_5 zq_2
theorem zr_15_4 : zSnd 15 4 (o_getf 4 11 7) := zS_getfN (idx := 124) (by decide +kernel) rfl (by decide) rfl (by decide) rfl zin_4 zq_37
theorem zr_15_7 : zSnd 15 7 (o_ifeq 20 10) := zS_ifeq (by decide +kernel : decode (zmB 15) 7 = .ok (.ifCond .eq 13, 3)) rfl (by decide)
theorem zr_15_10 : zSnd 15 10 (o_aload 0 11) := zS_aload_n (i := 0) (by decide +kernel) rfl rfl
theorem zr_15_11 : zSnd 15 11 (o_getf 5 1 14) := zS_getf (idx := 20) (by decide +kernel) rfl (by decide) rfl (by decide) rfl zin_5 zq_2
theorem zr_15_14 : zSnd 15 14 (o_callv 4 167 1 5 1 17) := zS_callVN (n := 0) (idx := 237) (by decide +kernel) rfl rfl (by decide) rfl zq_87 zq_88 zq_89 (by decide +kernel) zMk_167 (by decide +kernel) (by decide +kernel) (by decide +kernel)
theorem zr_15_17 : zSnd 15 17 (o_goto 21) := zS_goto (by decide +kernel : decode (zmB 15) 17 = .ok (.goto 4, 3)) (by decide)
theorem zr_15_20 : zSnd 15 20 (o_const (-1) 21) := zS_iconst (by decide +kernel) rfl (by decide)
theorem zr_15_21 : zSnd 15 21 (o_iret) := zS_iret (by decide +kernel) (by decide +kernel)
theorem zT_15 (pc : Nat) : zSnd 15 pc (zc_15 pc) := by
  unfold zc_15
  exact (zSn_nd (zSn_nd (zSn_nd (zSn_lf zr_15_0) (zSn_lf zr_15_1)) (zSn_nd (zSn_lf zr_15_4) (zSn_nd (zSn_lf zr_15_7) (zSn_lf zr_15_10)))) (zSn_nd (zSn_nd (zSn_lf zr_15_11) (zSn_lf zr_15_14)) (zSn_nd (zSn_lf zr_15_17) (zSn_nd (zSn_lf zr_15_20) (zSn_lf zr_15_21)))))
theorem zr_16_0 : zSnd 16 0 (o_aload 0 1) := zS_aload_n (i := 0) (by decide +kernel) rfl rfl
theorem zr_16_1 : zSnd 16 1 (o_getf 5 1 4) := zS_getf (idx := 20) (by decide +kernel) rfl (by decide) rfl (by decide) rfl zin_5 zq_2
theorem zr_16_4 : zSnd 16 4 (o_iload 1 5) := zS_iload_n (i := 1) (by decide +kernel) rfl rfl
theorem zr_16_5 : zSnd 16 5 (o_callv 4 146 2 2 1 8) := zS_callVN (n := 1) (idx := 79) (by decide +kernel) rfl rfl (by decide) rfl zq_16 zq_17 zq_18 (by decide +kernel) zMk_146 (by decide +kernel) (by decide +kernel) (by decide +kernel)
theorem zr_16_8 : zSnd 16 8 (o_ifeq 15 11) := zS_ifeq (by decide +kernel : decode (zmB 16) 8 = .ok (.ifCond .eq 7, 3)) rfl (by decide)
theorem zr_16_11 : zSnd 16 11 (o_iload 2 12) := zS_iload_n (i := 2) (by decide +kernel) rfl rfl
theorem zr_16_12 : zSnd 16 12 (o_ifge 25 15) := zS_ifge (by decide +kernel : decode (zmB 16) 12 = .ok (.ifCond .ge 13, 3)) rfl (by decide)
theorem zr_16_15 : zSnd 16 15 (o_thr 3) := zS_thr
theorem zr_16_25 : zSnd 16 25 (o_aload 0 26) := zS_aload_n (i := 0) (by decide +kernel) rfl rfl
theorem zr_16_26 : zSnd 16 26 (o_getf 5 1 29) := zS_getf (idx := 20) (by decide +kernel) rfl (by decide) rfl (by decide) rfl zin_5 zq_2
theorem zr_16_29 : zSnd 16 29 (o_getf 4 11 32) := zS_getfN (idx := 124) (by decide +kernel) rfl (by decide) rfl (by decide) rfl zin_4 zq_37
theorem zr_16_32 : zSnd 16 32 (o_ifeq 47 35) := zS_ifeq (by decide +kernel : decode (zmB 16) 32 = .ok (.ifCond .eq 15, 3)) rfl (by decide)
theorem zr_16_35 : zSnd 16 35 (o_aload 0 36) := zS_aload_n (i := 0) (by decide +kernel) rfl rfl
theorem zr_16_36 : zSnd 16 36 (o_getf 5 1 39) := zS_getf (idx := 20) (by decide +kernel) rfl (by decide) rfl (by decide) rfl zin_5 zq_2
theorem zr_16_39 : zSnd 16 39 (o_iload 1 40) := zS_iload_n (i := 1) (by decide +kernel) rfl rfl
theorem zr_16_40 : zSnd 16 40 (o_iload 2 41) := zS_iload_n (i := 2) (by decide +kernel) rfl rfl
theorem zr_16_41 : zSnd 16 41 (o_callv 4 169 3 6 1 44) := zS_callVN (n := 2) (idx := 242) (by decide +kernel) rfl rfl (by decide) rfl zq_90 zq_91 zq_92 (by decide +kernel) zMk_169 (by decide +kernel) (by decide +kernel) (by decide +kernel)
theorem zr_16_44 : zSnd 16 44 (o_goto 48) := zS_goto (by decide +kernel : decode (zmB 16) 44 = .ok (.goto 4, 3)) (by decide)
theorem zr_16_47 : zSnd 16 47 (o_const (-1) 48) := zS_iconst (by decide +kernel) rfl (by decide)
theorem zr_16_48 : zSnd 16 48 (o_iret) := zS_iret (by decide +kernel) (by decide +kernel)
theorem zT_16 (pc : Nat) : zSnd 16 pc (zc_16 pc) := by
  unfold zc_16
  exact (zSn_nd (zSn_nd (zSn_nd (zSn_nd (zSn_lf zr_16_0) (zSn_lf zr_16_1)) (zSn_nd (zSn_lf zr_16_4) (zSn_nd (zSn_lf zr_16_5) (zSn_lf zr_16_8)))) (zSn_nd (zSn_nd (zSn_lf zr_16_11) (zSn_lf zr_16_12)) (zSn_nd (zSn_lf zr_16_15) (zSn_nd (zSn_lf zr_16_25) (zSn_lf zr_16_26))))) (zSn_nd (zSn_nd (zSn_nd (zSn_lf zr_16_29) (zSn_lf zr_16_32)) (zSn_nd (zSn_lf zr_16_35) (zSn_nd (zSn_lf zr_16_36) (zSn_lf zr_16_39)))) (zSn_nd (zSn_nd (zSn_lf zr_16_40) (zSn_lf zr_16_41)) (zSn_nd (zSn_lf zr_16_44) (zSn_nd (zSn_lf zr_16_47) (zSn_lf zr_16_48))))))
theorem zr_17_0 : zSnd 17 0 (o_iload 1 1) := zS_iload_n (i := 1) (by decide +kernel) rfl rfl
theorem zr_17_1 : zSnd 17 1 (o_call 34 1 1 1 4) := zS_callS (idx := 115) (by decide +kernel) rfl zq_32 zq_33 (by decide +kernel) zMk_34 (by decide +kernel) (by decide +kernel) (by decide +kernel)
theorem zr_17_4 : zSnd 17 4 (o_ifne 17 7) := zS_ifne (by decide +kernel : decode (zmB 17) 4 = .ok (.ifCond .ne 13, 3)) rfl (by decide)
theorem zr_17_7 : zSnd 17 7 (o_thr 1) := zS_thr
theorem zr_17_17 : zSnd 17 17 (o_aload 0 18) := zS_aload_n (i := 0) (by decide +kernel) rfl rfl
theorem zr_17_18 : zSnd 17 18 (o_getf 5 0 21) := zS_getf (idx := 12) (by decide +kernel) rfl (by decide) rfl (by decide) rfl zin_5 zq_38
theorem zr_17_21 : zSnd 17 21 (o_iload 1 22) := zS_iload_n (i := 1) (by decide +kernel) rfl rfl
theorem zr_17_22 : zSnd 17 22 (o_callv 3 132 2 2 1 25) := zS_callVN (n := 1) (idx := 245) (by decide +kernel) rfl rfl (by decide) rfl zq_93 zq_94 zq_95 (by decide +kernel) zMk_132 (by decide +kernel) (by decide +kernel) (by decide +kernel)
theorem zr_17_25 : zSnd 17 25 (o_iret) := zS_iret (by decide +kernel) (by decide +kernel)
theorem zT_17 (pc : Nat) : zSnd 17 pc (zc_17 pc) := by
  unfold zc_17
  exact (zSn_nd (zSn_nd (zSn_nd (zSn_lf zr_17_0) (zSn_lf zr_17_1)) (zSn_nd (zSn_lf zr_17_4) (zSn_lf zr_17_7))) (zSn_nd (zSn_nd (zSn_lf zr_17_17) (zSn_lf zr_17_18)) (zSn_nd (zSn_lf zr_17_21) (zSn_nd (zSn_lf zr_17_22) (zSn_lf zr_17_25)))))
theorem zr_18_0 : zSnd 18 0 (o_const 0 1) := zS_iconst (by decide +kernel) rfl (by decide)
theorem zr_18_1 : zSnd 18 1 (o_istore 1 2) := zS_istore_n (i := 1) (by decide +kernel) rfl rfl (by decide +kernel)
theorem zr_18_2 : zSnd 18 2 (o_aload 0 3) := zS_aload_n (i := 0) (by decide +kernel) rfl rfl
theorem zr_18_3 : zSnd 18 3 (o_getf 5 0 6) := zS_getf (idx := 12) (by decide +kernel) rfl (by decide) rfl (by decide) rfl zin_5 zq_38
theorem zr_18_6 : zSnd 18 6 (o_const 0 7) := zS_iconst (by decide +kernel) rfl (by decide)
theorem zr_18_7 : zSnd 18 7 (o_callv 3 132 2 2 1 10) := zS_callVN (n := 1) (idx := 245) (by decide +kernel) rfl rfl (by decide) rfl zq_93 zq_94 zq_95 (by decide +kernel) zMk_132 (by decide +kernel) (by decide +kernel) (by decide +kernel)
theorem zr_18_10 : zSnd 18 10 (o_istore 2 11) := zS_istore_n (i := 2) (by decide +kernel) rfl rfl (by decide +kernel)
theorem zr_18_11 : zSnd 18 11 (o_const 1 12) := zS_iconst (by decide +kernel) rfl (by decide)
theorem zr_18_12 : zSnd 18 12 (o_istore 3 13) := zS_istore_n (i := 3) (by decide +kernel) rfl rfl (by decide +kernel)
theorem zr_18_13 : zSnd 18 13 (o_iload 3 14) := zS_iload_n (i := 3) (by decide +kernel) rfl rfl
theorem zr_18_14 : zSnd 18 14 (o_const 3 15) := zS_iconst (by decide +kernel) rfl (by decide)
theorem zr_18_15 : zSnd 18 15 (o_cgt 45 18) := zS_cgt (by decide +kernel : decode (zmB 18) 15 = .ok (.if_icmp .gt 30, 3)) rfl (by decide)
theorem zr_18_18 : zSnd 18 18 (o_aload 0 19) := zS_aload_n (i := 0) (by decide +kernel) rfl rfl
theorem zr_18_19 : zSnd 18 19 (o_getf 5 0 22) := zS_getf (idx := 12) (by decide +kernel) rfl (by decide) rfl (by decide) rfl zin_5 zq_38
theorem zr_18_22 : zSnd 18 22 (o_iload 3 23) := zS_iload_n (i := 3) (by decide +kernel) rfl rfl
theorem zr_18_23 : zSnd 18 23 (o_callv 3 132 2 2 1 26) := zS_callVN (n := 1) (idx := 245) (by decide +kernel) rfl rfl (by decide) rfl zq_93 zq_94 zq_95 (by decide +kernel) zMk_132 (by decide +kernel) (by decide +kernel) (by decide +kernel)
theorem zr_18_26 : zSnd 18 26 (o_istore 4 28) := zS_istore (by decide +kernel) rfl (by decide +kernel)
theorem zr_18_28 : zSnd 18 28 (o_iload 4 30) := zS_iload (by decide +kernel) rfl
theorem zr_18_30 : zSnd 18 30 (o_iload 2 31) := zS_iload_n (i := 2) (by decide +kernel) rfl rfl
theorem zr_18_31 : zSnd 18 31 (o_cge 39 34) := zS_cge (by decide +kernel : decode (zmB 18) 31 = .ok (.if_icmp .ge 8, 3)) rfl (by decide)
theorem zr_18_34 : zSnd 18 34 (o_iload 3 35) := zS_iload_n (i := 3) (by decide +kernel) rfl rfl
theorem zr_18_35 : zSnd 18 35 (o_istore 1 36) := zS_istore_n (i := 1) (by decide +kernel) rfl rfl (by decide +kernel)
theorem zr_18_36 : zSnd 18 36 (o_iload 4 38) := zS_iload (by decide +kernel) rfl
theorem zr_18_38 : zSnd 18 38 (o_istore 2 39) := zS_istore_n (i := 2) (by decide +kernel) rfl rfl (by decide +kernel)
theorem zr_18_39 : zSnd 18 39 (o_iinc 3 1 42) := zS_iinc (by decide +kernel) rfl (by decide +kernel)
theorem zr_18_42 : zSnd 18 42 (o_goto 13) := zS_goto (by decide +kernel : decode (zmB 18) 42 = .ok (.goto (-29), 3)) (by decide)
theorem zr_18_45 : zSnd 18 45 (o_iload 1 46) := zS_iload_n (i := 1) (by decide +kernel) rfl rfl
theorem zr_18_46 : zSnd 18 46 (o_iret) := zS_iret (by decide +kernel) (by decide +kernel)
theorem zT_18 (pc : Nat) : zSnd 18 pc (zc_18 pc) := by
  unfold zc_18
  exact (zSn_nd (zSn_nd (zSn_nd (zSn_nd (zSn_lf zr_18_0) (zSn_nd (zSn_lf zr_18_1) (zSn_lf zr_18_2))) (zSn_nd (zSn_nd (zSn_lf zr_18_3) (zSn_lf zr_18_6)) (zSn_nd (zSn_lf zr_18_7) (zSn_lf zr_18_10)))) (zSn_nd (zSn_nd (zSn_lf zr_18_11) (zSn_nd (zSn_lf zr_18_12) (zSn_lf zr_18_13))) (zSn_nd (zSn_nd (zSn_lf zr_18_14) (zSn_lf zr_18_15)) (zSn_nd (zSn_lf zr_18_18) (zSn_lf zr_18_19))))) (zSn_nd (zSn_nd (zSn_nd (zSn_lf zr_18_22) (zSn_nd (zSn_lf zr_18_23) (zSn_lf zr_18_26))) (zSn_nd (zSn_nd (zSn_lf zr_18_28) (zSn_lf zr_18_30)) (zSn_nd (zSn_lf zr_18_31) (zSn_lf zr_18_34)))) (zSn_nd (zSn_nd (zSn_lf zr_18_35) (zSn_nd (zSn_lf zr_18_36) (zSn_lf zr_18_38))) (zSn_nd (zSn_nd (zSn_lf zr_18_39) (zSn_lf zr_18_42)) (zSn_nd (zSn_lf zr_18_45) (zSn_lf zr_18_46))))))
theorem zr_19_0 : zSnd 19 0 (o_aload 0 1) := zS_aload_n (i := 0) (by decide +kernel) rfl rfl
theorem zr_19_1 : zSnd 19 1 (o_getf 5 1 4) := zS_getf (idx := 20) (by decide +kernel) rfl (by decide) rfl (by decide) rfl zin_5 zq_2
theorem zr_19_4 : zSnd 19 4 (o_getf 4 11 7) := zS_getfN (idx := 124) (by decide +kernel) rfl (by decide) rfl (by decide) rfl zin_4 zq_37
theorem zr_19_7 : zSnd 19 7 (o_ifne 12 10) := zS_ifne (by decide +kernel : decode (zmB 19) 7 = .ok (.ifCond .ne 5, 3)) rfl (by decide)
theorem zr_19_10 : zSnd 19 10 (o_const (-1) 11) := zS_iconst (by decide +kernel) rfl (by decide)
theorem zr_19_11 : zSnd 19 11 (o_iret) := zS_iret (by decide +kernel) (by decide +kernel)
theorem zr_19_12 : zSnd 19 12 (o_aload 0 13) := zS_aload_n (i := 0) (by decide +kernel) rfl rfl
theorem zr_19_13 : zSnd 19 13 (o_getf 5 0 16) := zS_getf (idx := 12) (by decide +kernel) rfl (by decide) rfl (by decide) rfl zin_5 zq_38
theorem zr_19_16 : zSnd 19 16 (o_callv 3 139 1 6 0 19) := zS_callVN (n := 0) (idx := 130) (by decide +kernel) rfl rfl (by decide) rfl zq_39 zq_40 zq_41 (by decide +kernel) zMk_139 (by decide +kernel) (by decide +kernel) (by decide +kernel)
theorem zr_19_19 : zSnd 19 19 (o_aload 0 20) := zS_aload_n (i := 0) (by decide +kernel) rfl rfl
theorem zr_19_20 : zSnd 19 20 (o_getf 5 0 23) := zS_getf (idx := 12) (by decide +kernel) rfl (by decide) rfl (by decide) rfl zin_5 zq_38
theorem zr_19_23 : zSnd 19 23 (o_callv 3 131 1 1 1 26) := zS_callVN (n := 0) (idx := 248) (by decide +kernel) rfl rfl (by decide) rfl zq_96 zq_97 zq_98 (by decide +kernel) zMk_131 (by decide +kernel) (by decide +kernel) (by decide +kernel)
theorem zr_19_26 : zSnd 19 26 (o_iret) := zS_iret (by decide +kernel) (by decide +kernel)
theorem zT_19 (pc : Nat) : zSnd 19 pc (zc_19 pc) := by
  unfold zc_19
  exact (zSn_nd (zSn_nd (zSn_nd (zSn_lf zr_19_0) (zSn_nd (zSn_lf zr_19_1) (zSn_lf zr_19_4))) (zSn_nd (zSn_lf zr_19_7) (zSn_nd (zSn_lf zr_19_10) (zSn_lf zr_19_11)))) (zSn_nd (zSn_nd (zSn_lf zr_19_12) (zSn_nd (zSn_lf zr_19_13) (zSn_lf zr_19_16))) (zSn_nd (zSn_nd (zSn_lf zr_19_19) (zSn_lf zr_19_20)) (zSn_nd (zSn_lf zr_19_23) (zSn_lf zr_19_26)))))
theorem zr_20_0 : zSnd 20 0 (o_iload 1 1) := zS_iload_n (i := 1) (by decide +kernel) rfl rfl
theorem zr_20_1 : zSnd 20 1 (o_const 0 2) := zS_iconst (by decide +kernel) rfl (by decide)
theorem zr_20_2 : zSnd 20 2 (o_const 999 5) := zS_sipush (by decide +kernel) rfl (by decide) (by decide)
theorem zr_20_5 : zSnd 20 5 (o_call 33 3 3 1 8) := zS_callS (idx := 35) (by decide +kernel) rfl zq_0 zq_1 (by decide +kernel) zMk_33 (by decide +kernel) (by decide +kernel) (by decide +kernel)
theorem zr_20_8 : zSnd 20 8 (o_ifne 21 11) := zS_ifne (by decide +kernel : decode (zmB 20) 8 = .ok (.ifCond .ne 13, 3)) rfl (by decide)
theorem zr_20_11 : zSnd 20 11 (o_thr 1) := zS_thr
theorem zr_20_21 : zSnd 20 21 (o_aload 0 22) := zS_aload_n (i := 0) (by decide +kernel) rfl rfl
theorem zr_20_22 : zSnd 20 22 (o_getf 5 1 25) := zS_getf (idx := 20) (by decide +kernel) rfl (by decide) rfl (by decide) rfl zin_5 zq_2
theorem zr_20_25 : zSnd 20 25 (o_getf 4 11 28) := zS_getfN (idx := 124) (by decide +kernel) rfl (by decide) rfl (by decide) rfl zin_4 zq_37
theorem zr_20_28 : zSnd 20 28 (o_ifne 33 31) := zS_ifne (by decide +kernel : decode (zmB 20) 28 = .ok (.ifCond .ne 5, 3)) rfl (by decide)
theorem zr_20_31 : zSnd 20 31 (o_const (-1) 32) := zS_iconst (by decide +kernel) rfl (by decide)
theorem zr_20_32 : zSnd 20 32 (o_iret) := zS_iret (by decide +kernel) (by decide +kernel)
theorem zr_20_33 : zSnd 20 33 (o_const 0 34) := zS_iconst (by decide +kernel) rfl (by decide)
theorem zr_20_34 : zSnd 20 34 (o_istore 2 35) := zS_istore_n (i := 2) (by decide +kernel) rfl rfl (by decide +kernel)
theorem zr_20_35 : zSnd 20 35 (o_aload 0 36) := zS_aload_n (i := 0) (by decide +kernel) rfl rfl
theorem zr_20_36 : zSnd 20 36 (o_getf 5 0 39) := zS_getf (idx := 12) (by decide +kernel) rfl (by decide) rfl (by decide) rfl zin_5 zq_38
theorem zr_20_39 : zSnd 20 39 (o_iload 1 40) := zS_iload_n (i := 1) (by decide +kernel) rfl rfl
theorem zr_20_40 : zSnd 20 40 (o_const 0 41) := zS_iconst (by decide +kernel) rfl (by decide)
theorem zr_20_41 : zSnd 20 41 (o_callv 3 133 3 3 1 44) := zS_callVN (n := 2) (idx := 253) (by decide +kernel) rfl rfl (by decide) rfl zq_99 zq_100 zq_101 (by decide +kernel) zMk_133 (by decide +kernel) (by decide +kernel) (by decide +kernel)
theorem zr_20_44 : zSnd 20 44 (o_istore 3 45) := zS_istore_n (i := 3) (by decide +kernel) rfl rfl (by decide +kernel)
theorem zr_20_45 : zSnd 20 45 (o_const 1 46) := zS_iconst (by decide +kernel) rfl (by decide)
theorem zr_20_46 : zSnd 20 46 (o_istore 4 48) := zS_istore (by decide +kernel) rfl (by decide +kernel)
theorem zr_20_48 : zSnd 20 48 (o_iload 4 50) := zS_iload (by decide +kernel) rfl
theorem zr_20_50 : zSnd 20 50 (o_const 3 51) := zS_iconst (by decide +kernel) rfl (by decide)
theorem zr_20_51 : zSnd 20 51 (o_cgt 84 54) := zS_cgt (by decide +kernel : decode (zmB 20) 51 = .ok (.if_icmp .gt 33, 3)) rfl (by decide)
theorem zr_20_54 : zSnd 20 54 (o_aload 0 55) := zS_aload_n (i := 0) (by decide +kernel) rfl rfl
theorem zr_20_55 : zSnd 20 55 (o_getf 5 0 58) := zS_getf (idx := 12) (by decide +kernel) rfl (by decide) rfl (by decide) rfl zin_5 zq_38
theorem zr_20_58 : zSnd 20 58 (o_iload 1 59) := zS_iload_n (i := 1) (by decide +kernel) rfl rfl
theorem zr_20_59 : zSnd 20 59 (o_iload 4 61) := zS_iload (by decide +kernel) rfl
theorem zr_20_61 : zSnd 20 61 (o_callv 3 133 3 3 1 64) := zS_callVN (n := 2) (idx := 253) (by decide +kernel) rfl rfl (by decide) rfl zq_99 zq_100 zq_101 (by decide +kernel) zMk_133 (by decide +kernel) (by decide +kernel) (by decide +kernel)
theorem zr_20_64 : zSnd 20 64 (o_istore 5 66) := zS_istore (by decide +kernel) rfl (by decide +kernel)
theorem zr_20_66 : zSnd 20 66 (o_iload 5 68) := zS_iload (by decide +kernel) rfl
theorem zr_20_68 : zSnd 20 68 (o_iload 3 69) := zS_iload_n (i := 3) (by decide +kernel) rfl rfl
theorem zr_20_69 : zSnd 20 69 (o_cge 78 72) := zS_cge (by decide +kernel : decode (zmB 20) 69 = .ok (.if_icmp .ge 9, 3)) rfl (by decide)
theorem zr_20_72 : zSnd 20 72 (o_iload 4 74) := zS_iload (by decide +kernel) rfl
theorem zr_20_74 : zSnd 20 74 (o_istore 2 75) := zS_istore_n (i := 2) (by decide +kernel) rfl rfl (by decide +kernel)
theorem zr_20_75 : zSnd 20 75 (o_iload 5 77) := zS_iload (by decide +kernel) rfl
theorem zr_20_77 : zSnd 20 77 (o_istore 3 78) := zS_istore_n (i := 3) (by decide +kernel) rfl rfl (by decide +kernel)
theorem zr_20_78 : zSnd 20 78 (o_iinc 4 1 81) := zS_iinc (by decide +kernel) rfl (by decide +kernel)
theorem zr_20_81 : zSnd 20 81 (o_goto 48) := zS_goto (by decide +kernel : decode (zmB 20) 81 = .ok (.goto (-33), 3)) (by decide)
theorem zr_20_84 : zSnd 20 84 (o_const 1000000 87) := zS_ldc_w (idx := 256) (by decide +kernel) rfl (by decide) zq_102
theorem zr_20_87 : zSnd 20 87 (o_iload 2 88) := zS_iload_n (i := 2) (by decide +kernel) rfl rfl
theorem zr_20_88 : zSnd 20 88 (o_imul 89) := zS_imul (by decide +kernel) rfl
theorem zr_20_89 : zSnd 20 89 (o_iload 3 90) := zS_iload_n (i := 3) (by decide +kernel) rfl rfl
theorem zr_20_90 : zSnd 20 90 (o_const 999999 93) := zS_ldc_w (idx := 257) (by decide +kernel) rfl (by decide) zq_103
theorem zr_20_93 : zSnd 20 93 (o_min 96) := zS_min (idx := 258) (by decide +kernel) rfl zq_104 zq_105 zq_106 zq_107 (by decide +kernel)
theorem zr_20_96 : zSnd 20 96 (o_iadd 97) := zS_iadd (by decide +kernel) rfl
theorem zr_20_97 : zSnd 20 97 (o_iret) := zS_iret (by decide +kernel) (by decide +kernel)
theorem zT_20 (pc : Nat) : zSnd 20 pc (zc_20 pc) := by
  unfold zc_20
  exact (zSn_nd (zSn_nd (zSn_nd (zSn_nd (zSn_nd (zSn_lf zr_20_0) (zSn_nd (zSn_lf zr_20_1) (zSn_lf zr_20_2))) (zSn_nd (zSn_lf zr_20_5) (zSn_nd (zSn_lf zr_20_8) (zSn_lf zr_20_11)))) (zSn_nd (zSn_nd (zSn_lf zr_20_21) (zSn_nd (zSn_lf zr_20_22) (zSn_lf zr_20_25))) (zSn_nd (zSn_lf zr_20_28) (zSn_nd (zSn_lf zr_20_31) (zSn_lf zr_20_32))))) (zSn_nd (zSn_nd (zSn_nd (zSn_lf zr_20_33) (zSn_nd (zSn_lf zr_20_34) (zSn_lf zr_20_35))) (zSn_nd (zSn_lf zr_20_36) (zSn_nd (zSn_lf zr_20_39) (zSn_lf zr_20_40)))) (zSn_nd (zSn_nd (zSn_lf zr_20_41) (zSn_nd (zSn_lf zr_20_44) (zSn_lf zr_20_45))) (zSn_nd (zSn_lf zr_20_46) (zSn_nd (zSn_lf zr_20_48) (zSn_lf zr_20_50)))))) (zSn_nd (zSn_nd (zSn_nd (zSn_nd (zSn_lf zr_20_51) (zSn_nd (zSn_lf zr_20_54) (zSn_lf zr_20_55))) (zSn_nd (zSn_lf zr_20_58) (zSn_nd (zSn_lf zr_20_59) (zSn_lf zr_20_61)))) (zSn_nd (zSn_nd (zSn_lf zr_20_64) (zSn_nd (zSn_lf zr_20_66) (zSn_lf zr_20_68))) (zSn_nd (zSn_lf zr_20_69) (zSn_nd (zSn_lf zr_20_72) (zSn_lf zr_20_74))))) (zSn_nd (zSn_nd (zSn_nd (zSn_lf zr_20_75) (zSn_nd (zSn_lf zr_20_77) (zSn_lf zr_20_78))) (zSn_nd (zSn_lf zr_20_81) (zSn_nd (zSn_lf zr_20_84) (zSn_lf zr_20_87)))) (zSn_nd (zSn_nd (zSn_lf zr_20_88) (zSn_nd (zSn_lf zr_20_89) (zSn_lf zr_20_90))) (zSn_nd (zSn_lf zr_20_93) (zSn_nd (zSn_lf zr_20_96) (zSn_lf zr_20_97)))))))
theorem zr_21_0 : zSnd 21 0 (o_iload 1 1) := zS_iload_n (i := 1) (by decide +kernel) rfl rfl
theorem zr_21_1 : zSnd 21 1 (o_call 34 1 1 1 4) := zS_callS (idx := 115) (by decide +kernel) rfl zq_32 zq_33 (by decide +kernel) zMk_34 (by decide +kernel) (by decide +kernel) (by decide +kernel)
theorem zr_21_4 : zSnd 21 4 (o_ifne 17 7) := zS_ifne (by decide +kernel : decode (zmB 21) 4 = .ok (.ifCond .ne 13, 3)) rfl (by decide)
theorem zr_21_7 : zSnd 21 7 (o_thr 1) := zS_thr
theorem zr_21_17 : zSnd 21 17 (o_const (-1) 18) := zS_iconst (by decide +kernel) rfl (by decide)
theorem zr_21_18 : zSnd 21 18 (o_istore 2 19) := zS_istore_n (i := 2) (by decide +kernel) rfl rfl (by decide +kernel)
theorem zr_21_19 : zSnd 21 19 (o_aload 0 20) := zS_aload_n (i := 0) (by decide +kernel) rfl rfl
theorem zr_21_20 : zSnd 21 20 (o_getf 5 0 23) := zS_getf (idx := 12) (by decide +kernel) rfl (by decide) rfl (by decide) rfl zin_5 zq_38
theorem zr_21_23 : zSnd 21 23 (o_iload 1 24) := zS_iload_n (i := 1) (by decide +kernel) rfl rfl
theorem zr_21_24 : zSnd 21 24 (o_callv 3 132 2 2 1 27) := zS_callVN (n := 1) (idx := 245) (by decide +kernel) rfl rfl (by decide) rfl zq_93 zq_94 zq_95 (by decide +kernel) zMk_132 (by decide +kernel) (by decide +kernel) (by decide +kernel)
theorem zr_21_27 : zSnd 21 27 (o_istore 3 28) := zS_istore_n (i := 3) (by decide +kernel) rfl rfl (by decide +kernel)
theorem zr_21_28 : zSnd 21 28 (o_const 0 29) := zS_iconst (by decide +kernel) rfl (by decide)
theorem zr_21_29 : zSnd 21 29 (o_istore 4 31) := zS_istore (by decide +kernel) rfl (by decide +kernel)
theorem zr_21_31 : zSnd 21 31 (o_iload 4 33) := zS_iload (by decide +kernel) rfl
theorem zr_21_33 : zSnd 21 33 (o_aload 0 34) := zS_aload_n (i := 0) (by decide +kernel) rfl rfl
theorem zr_21_34 : zSnd 21 34 (o_getf 5 1 37) := zS_getf (idx := 20) (by decide +kernel) rfl (by decide) rfl (by decide) rfl zin_5 zq_2
theorem zr_21_37 : zSnd 21 37 (o_getf 4 1 40) := zS_getfN (idx := 50) (by decide +kernel) rfl (by decide) rfl (by decide) rfl zin_4 zq_80
theorem zr_21_40 : zSnd 21 40 (o_cge 105 43) := zS_cge (by decide +kernel : decode (zmB 21) 40 = .ok (.if_icmp .ge 65, 3)) rfl (by decide)
theorem zr_21_43 : zSnd 21 43 (o_const 0 44) := zS_iconst (by decide +kernel) rfl (by decide)
theorem zr_21_44 : zSnd 21 44 (o_istore 5 46) := zS_istore (by decide +kernel) rfl (by decide +kernel)
theorem zr_21_46 : zSnd 21 46 (o_iload 5 48) := zS_iload (by decide +kernel) rfl
theorem zr_21_48 : zSnd 21 48 (o_aload 0 49) := zS_aload_n (i := 0) (by decide +kernel) rfl rfl
theorem zr_21_49 : zSnd 21 49 (o_getf 5 1 52) := zS_getf (idx := 20) (by decide +kernel) rfl (by decide) rfl (by decide) rfl zin_5 zq_2
theorem zr_21_52 : zSnd 21 52 (o_getf 4 4 55) := zS_getfN (idx := 186) (by decide +kernel) rfl (by decide) rfl (by decide) rfl zin_4 zq_64
theorem zr_21_55 : zSnd 21 55 (o_iload 4 57) := zS_iload (by decide +kernel) rfl
theorem zr_21_57 : zSnd 21 57 (o_iald 58) := zS_iald (by decide +kernel) rfl
theorem zr_21_58 : zSnd 21 58 (o_cge 99 61) := zS_cge (by decide +kernel : decode (zmB 21) 58 = .ok (.if_icmp .ge 41, 3)) rfl (by decide)
theorem zr_21_61 : zSnd 21 61 (o_aload 0 62) := zS_aload_n (i := 0) (by decide +kernel) rfl rfl
theorem zr_21_62 : zSnd 21 62 (o_iload 4 64) := zS_iload (by decide +kernel) rfl
theorem zr_21_64 : zSnd 21 64 (o_iload 5 66) := zS_iload (by decide +kernel) rfl
theorem zr_21_66 : zSnd 21 66 (o_call 35 2 2 1 69) := zS_callS (idx := 176) (by decide +kernel) rfl zq_61 zq_62 (by decide +kernel) zMk_35 (by decide +kernel) (by decide +kernel) (by decide +kernel)
theorem zr_21_69 : zSnd 21 69 (o_iload 1 70) := zS_iload_n (i := 1) (by decide +kernel) rfl rfl
theorem zr_21_70 : zSnd 21 70 (o_callv 5 31 3 4 1 73) := zS_callV (n := 2) (idx := 263) (by decide +kernel) rfl rfl (by decide) rfl zq_108 zq_109 zq_110 (by decide +kernel) zMk_31 (by decide +kernel) (by decide +kernel) (by decide +kernel)
theorem zr_21_73 : zSnd 21 73 (o_istore 6 75) := zS_istore (by decide +kernel) rfl (by decide +kernel)
theorem zr_21_75 : zSnd 21 75 (o_iload 6 77) := zS_iload (by decide +kernel) rfl
theorem zr_21_77 : zSnd 21 77 (o_iload 3 78) := zS_iload_n (i := 3) (by decide +kernel) rfl rfl
theorem zr_21_78 : zSnd 21 78 (o_cge 93 81) := zS_cge (by decide +kernel : decode (zmB 21) 78 = .ok (.if_icmp .ge 15, 3)) rfl (by decide)
theorem zr_21_81 : zSnd 21 81 (o_const 10 83) := zS_bipush (by decide +kernel) rfl (by decide) (by decide)
theorem zr_21_83 : zSnd 21 83 (o_iload 4 85) := zS_iload (by decide +kernel) rfl
theorem zr_21_85 : zSnd 21 85 (o_imul 86) := zS_imul (by decide +kernel) rfl
theorem zr_21_86 : zSnd 21 86 (o_iload 5 88) := zS_iload (by decide +kernel) rfl
theorem zr_21_88 : zSnd 21 88 (o_iadd 89) := zS_iadd (by decide +kernel) rfl
theorem zr_21_89 : zSnd 21 89 (o_istore 2 90) := zS_istore_n (i := 2) (by decide +kernel) rfl rfl (by decide +kernel)
theorem zr_21_90 : zSnd 21 90 (o_iload 6 92) := zS_iload (by decide +kernel) rfl
theorem zr_21_92 : zSnd 21 92 (o_istore 3 93) := zS_istore_n (i := 3) (by decide +kernel) rfl rfl (by decide +kernel)
theorem zr_21_93 : zSnd 21 93 (o_iinc 5 1 96) := zS_iinc (by decide +kernel) rfl (by decide +kernel)
theorem zr_21_96 : zSnd 21 96 (o_goto 46) := zS_goto (by decide +kernel : decode (zmB 21) 96 = .ok (.goto (-50), 3)) (by decide)
theorem zr_21_99 : zSnd 21 99 (o_iinc 4 1 102) := zS_iinc (by decide +kernel) rfl (by decide +kernel)
theorem zr_21_102 : zSnd 21 102 (o_goto 31) := zS_goto (by decide +kernel : decode (zmB 21) 102 = .ok (.goto (-71), 3)) (by decide)
theorem zr_21_105 : zSnd 21 105 (o_iload 2 106) := zS_iload_n (i := 2) (by decide +kernel) rfl rfl
theorem zr_21_106 : zSnd 21 106 (o_iret) := zS_iret (by decide +kernel) (by decide +kernel)
theorem zT_21 (pc : Nat) : zSnd 21 pc (zc_21 pc) := by
  unfold zc_21
  exact (zSn_nd (zSn_nd (zSn_nd (zSn_nd (zSn_nd (zSn_lf zr_21_0) (zSn_nd (zSn_lf zr_21_1) (zSn_lf zr_21_4))) (zSn_nd (zSn_lf zr_21_7) (zSn_nd (zSn_lf zr_21_17) (zSn_lf zr_21_18)))) (zSn_nd (zSn_nd (zSn_lf zr_21_19) (zSn_nd (zSn_lf zr_21_20) (zSn_lf zr_21_23))) (zSn_nd (zSn_lf zr_21_24) (zSn_nd (zSn_lf zr_21_27) (zSn_lf zr_21_28))))) (zSn_nd (zSn_nd (zSn_nd (zSn_lf zr_21_29) (zSn_nd (zSn_lf zr_21_31) (zSn_lf zr_21_33))) (zSn_nd (zSn_lf zr_21_34) (zSn_nd (zSn_lf zr_21_37) (zSn_lf zr_21_40)))) (zSn_nd (zSn_nd (zSn_lf zr_21_43) (zSn_nd (zSn_lf zr_21_44) (zSn_lf zr_21_46))) (zSn_nd (zSn_nd (zSn_lf zr_21_48) (zSn_lf zr_21_49)) (zSn_nd (zSn_lf zr_21_52) (zSn_lf zr_21_55)))))) (zSn_nd (zSn_nd (zSn_nd (zSn_nd (zSn_lf zr_21_57) (zSn_nd (zSn_lf zr_21_58) (zSn_lf zr_21_61))) (zSn_nd (zSn_lf zr_21_62) (zSn_nd (zSn_lf zr_21_64) (zSn_lf zr_21_66)))) (zSn_nd (zSn_nd (zSn_lf zr_21_69) (zSn_nd (zSn_lf zr_21_70) (zSn_lf zr_21_73))) (zSn_nd (zSn_nd (zSn_lf zr_21_75) (zSn_lf zr_21_77)) (zSn_nd (zSn_lf zr_21_78) (zSn_lf zr_21_81))))) (zSn_nd (zSn_nd (zSn_nd (zSn_lf zr_21_83) (zSn_nd (zSn_lf zr_21_85) (zSn_lf zr_21_86))) (zSn_nd (zSn_lf zr_21_88) (zSn_nd (zSn_lf zr_21_89) (zSn_lf zr_21_90)))) (zSn_nd (zSn_nd (zSn_lf zr_21_92) (zSn_nd (zSn_lf zr_21_93) (zSn_lf zr_21_96))) (zSn_nd (zSn_nd (zSn_lf zr_21_99) (zSn_lf zr_21_102)) (zSn_nd (zSn_lf zr_21_105) (zSn_lf zr_21_106)))))))
theorem zr_29_0 : zSnd 29 0 (o_iload 1 1) := zS_iload_n (i := 1) (by decide +kernel) rfl rfl
theorem zr_29_1 : zSnd 29 1 (o_sw [(6, 28), (7, 43), (8, 58)] 66) := zS_tsw (n := 3) (by decide +kernel : decode (zmB 29) 1 = .ok (.tableswitch 65 6 8 #[27, 42, 57], 27)) (by decide) (by decide +kernel) (by intro x hx; simp only [zsw]; (repeat' split) <;> omega) (by decide)
theorem zr_29_28 : zSnd 29 28 (o_aload 0 29) := zS_aload_n (i := 0) (by decide +kernel) rfl rfl
theorem zr_29_29 : zSnd 29 29 (o_getf 5 1 32) := zS_getf (idx := 20) (by decide +kernel) rfl (by decide) rfl (by decide) rfl zin_5 zq_2
theorem zr_29_32 : zSnd 29 32 (o_aload 0 33) := zS_aload_n (i := 0) (by decide +kernel) rfl rfl
theorem zr_29_33 : zSnd 29 33 (o_getf 5 1 36) := zS_getf (idx := 20) (by decide +kernel) rfl (by decide) rfl (by decide) rfl zin_5 zq_2
theorem zr_29_36 : zSnd 29 36 (o_getf 4 12 39) := zS_getfN (idx := 204) (by decide +kernel) rfl (by decide) rfl (by decide) rfl zin_4 zq_75
theorem zr_29_39 : zSnd 29 39 (o_callv 4 161 2 4 1 42) := zS_callVN (n := 1) (idx := 141) (by decide +kernel) rfl rfl (by decide) rfl zq_46 zq_47 zq_48 (by decide +kernel) zMk_161 (by decide +kernel) (by decide +kernel) (by decide +kernel)
theorem zr_29_42 : zSnd 29 42 (o_iret) := zS_iret (by decide +kernel) (by decide +kernel)
theorem zr_29_43 : zSnd 29 43 (o_aload 0 44) := zS_aload_n (i := 0) (by decide +kernel) rfl rfl
theorem zr_29_44 : zSnd 29 44 (o_getf 5 1 47) := zS_getf (idx := 20) (by decide +kernel) rfl (by decide) rfl (by decide) rfl zin_5 zq_2
theorem zr_29_47 : zSnd 29 47 (o_aload 0 48) := zS_aload_n (i := 0) (by decide +kernel) rfl rfl
theorem zr_29_48 : zSnd 29 48 (o_getf 5 1 51) := zS_getf (idx := 20) (by decide +kernel) rfl (by decide) rfl (by decide) rfl zin_5 zq_2
theorem zr_29_51 : zSnd 29 51 (o_getf 4 13 54) := zS_getfN (idx := 133) (by decide +kernel) rfl (by decide) rfl (by decide) rfl zin_4 zq_42
theorem zr_29_54 : zSnd 29 54 (o_callv 4 161 2 4 1 57) := zS_callVN (n := 1) (idx := 141) (by decide +kernel) rfl rfl (by decide) rfl zq_46 zq_47 zq_48 (by decide +kernel) zMk_161 (by decide +kernel) (by decide +kernel) (by decide +kernel)
theorem zr_29_57 : zSnd 29 57 (o_iret) := zS_iret (by decide +kernel) (by decide +kernel)
theorem zr_29_58 : zSnd 29 58 (o_aload 0 59) := zS_aload_n (i := 0) (by decide +kernel) rfl rfl
theorem zr_29_59 : zSnd 29 59 (o_getf 5 1 62) := zS_getf (idx := 20) (by decide +kernel) rfl (by decide) rfl (by decide) rfl zin_5 zq_2
theorem zr_29_62 : zSnd 29 62 (o_callv 4 162 1 3 1 65) := zS_callVN (n := 0) (idx := 266) (by decide +kernel) rfl rfl (by decide) rfl zq_111 zq_112 zq_113 (by decide +kernel) zMk_162 (by decide +kernel) (by decide +kernel) (by decide +kernel)
theorem zr_29_65 : zSnd 29 65 (o_iret) := zS_iret (by decide +kernel) (by decide +kernel)
theorem zr_29_66 : zSnd 29 66 (o_aload 0 67) := zS_aload_n (i := 0) (by decide +kernel) rfl rfl
theorem zr_29_67 : zSnd 29 67 (o_getf 5 1 70) := zS_getf (idx := 20) (by decide +kernel) rfl (by decide) rfl (by decide) rfl zin_5 zq_2
theorem zr_29_70 : zSnd 29 70 (o_callv 4 166 1 5 1 73) := zS_callVN (n := 0) (idx := 331) (by decide +kernel) rfl rfl (by decide) rfl zq_114 zq_115 zq_116 (by decide +kernel) zMk_166 (by decide +kernel) (by decide +kernel) (by decide +kernel)
theorem zr_29_73 : zSnd 29 73 (o_iret) := zS_iret (by decide +kernel) (by decide +kernel)
theorem zT_29 (pc : Nat) : zSnd 29 pc (zc_29 pc) := by
  unfold zc_29
  exact (zSn_nd (zSn_nd (zSn_nd (zSn_nd (zSn_lf zr_29_0) (zSn_nd (zSn_lf zr_29_1) (zSn_lf zr_29_28))) (zSn_nd (zSn_lf zr_29_29) (zSn_nd (zSn_lf zr_29_32) (zSn_lf zr_29_33)))) (zSn_nd (zSn_nd (zSn_lf zr_29_36) (zSn_nd (zSn_lf zr_29_39) (zSn_lf zr_29_42))) (zSn_nd (zSn_lf zr_29_43) (zSn_nd (zSn_lf zr_29_44) (zSn_lf zr_29_47))))) (zSn_nd (zSn_nd (zSn_nd (zSn_lf zr_29_48) (zSn_nd (zSn_lf zr_29_51) (zSn_lf zr_29_54))) (zSn_nd (zSn_lf zr_29_57) (zSn_nd (zSn_lf zr_29_58) (zSn_lf zr_29_59)))) (zSn_nd (zSn_nd (zSn_lf zr_29_62) (zSn_nd (zSn_lf zr_29_65) (zSn_lf zr_29_66))) (zSn_nd (zSn_lf zr_29_67) (zSn_nd (zSn_lf zr_29_70) (zSn_lf zr_29_73))))))
