/-! ===== 11: a row for each step (written by a program) ===== -/
theorem zr_30_0 : zSnd 30 0 (o_aload 0 1) := zS_aload_n (i := 0) (by decide +kernel) rfl rfl
theorem zr_30_1 : zSnd 30 1 (o_getf 5 0 4) := zS_getf (idx := 12) (by decide +kernel) rfl (by decide) rfl (by decide) rfl zin_5 zq_38
theorem zr_30_4 : zSnd 30 4 (o_iload 1 5) := zS_iload_n (i := 1) (by decide +kernel) rfl rfl
theorem zr_30_5 : zSnd 30 5 (o_callv 3 134 2 2 0 8) := zS_callVN (n := 1) (idx := 334) (by decide +kernel) rfl rfl (by decide) rfl zq_117 zq_118 zq_119 (by decide +kernel) zMk_134 (by decide +kernel) (by decide +kernel) (by decide +kernel)
theorem zr_30_8 : zSnd 30 8 (o_aload 0 9) := zS_aload_n (i := 0) (by decide +kernel) rfl rfl
theorem zr_30_9 : zSnd 30 9 (o_getf 5 0 12) := zS_getf (idx := 12) (by decide +kernel) rfl (by decide) rfl (by decide) rfl zin_5 zq_38
theorem zr_30_12 : zSnd 30 12 (o_aload 0 13) := zS_aload_n (i := 0) (by decide +kernel) rfl rfl
theorem zr_30_13 : zSnd 30 13 (o_getf 5 1 16) := zS_getf (idx := 20) (by decide +kernel) rfl (by decide) rfl (by decide) rfl zin_5 zq_2
theorem zr_30_16 : zSnd 30 16 (o_getf 4 12 19) := zS_getfN (idx := 204) (by decide +kernel) rfl (by decide) rfl (by decide) rfl zin_4 zq_75
theorem zr_30_19 : zSnd 30 19 (o_callv 3 130 2 2 0 22) := zS_callVN (n := 1) (idx := 137) (by decide +kernel) rfl rfl (by decide) rfl zq_43 zq_44 zq_45 (by decide +kernel) zMk_130 (by decide +kernel) (by decide +kernel) (by decide +kernel)
theorem zr_30_22 : zSnd 30 22 (o_aload 0 23) := zS_aload_n (i := 0) (by decide +kernel) rfl rfl
theorem zr_30_23 : zSnd 30 23 (o_getf 5 0 26) := zS_getf (idx := 12) (by decide +kernel) rfl (by decide) rfl (by decide) rfl zin_5 zq_38
theorem zr_30_26 : zSnd 30 26 (o_aload 0 27) := zS_aload_n (i := 0) (by decide +kernel) rfl rfl
theorem zr_30_27 : zSnd 30 27 (o_getf 5 1 30) := zS_getf (idx := 20) (by decide +kernel) rfl (by decide) rfl (by decide) rfl zin_5 zq_2
theorem zr_30_30 : zSnd 30 30 (o_getf 4 13 33) := zS_getfN (idx := 133) (by decide +kernel) rfl (by decide) rfl (by decide) rfl zin_4 zq_42
theorem zr_30_33 : zSnd 30 33 (o_callv 3 130 2 2 0 36) := zS_callVN (n := 1) (idx := 137) (by decide +kernel) rfl rfl (by decide) rfl zq_43 zq_44 zq_45 (by decide +kernel) zMk_130 (by decide +kernel) (by decide +kernel) (by decide +kernel)
theorem zr_30_36 : zSnd 30 36 (o_aload 0 37) := zS_aload_n (i := 0) (by decide +kernel) rfl rfl
theorem zr_30_37 : zSnd 30 37 (o_getf 5 1 40) := zS_getf (idx := 20) (by decide +kernel) rfl (by decide) rfl (by decide) rfl zin_5 zq_2
theorem zr_30_40 : zSnd 30 40 (o_const 1 41) := zS_iconst (by decide +kernel) rfl (by decide)
theorem zr_30_41 : zSnd 30 41 (o_putz 4 11 44) := zS_putzN (idx := 124) (by decide +kernel) rfl (by decide) rfl (by decide) rfl zin_4 tyX3_ok nmX3 rfl (by decide +kernel) zq_37
theorem zr_30_44 : zSnd 30 44 (o_aload 0 45) := zS_aload_n (i := 0) (by decide +kernel) rfl rfl
theorem zr_30_45 : zSnd 30 45 (o_getf 5 1 48) := zS_getf (idx := 20) (by decide +kernel) rfl (by decide) rfl (by decide) rfl zin_5 zq_2
theorem zr_30_48 : zSnd 30 48 (o_aload 0 49) := zS_aload_n (i := 0) (by decide +kernel) rfl rfl
theorem zr_30_49 : zSnd 30 49 (o_getf 5 1 52) := zS_getf (idx := 20) (by decide +kernel) rfl (by decide) rfl (by decide) rfl zin_5 zq_2
theorem zr_30_52 : zSnd 30 52 (o_getf 4 13 55) := zS_getfN (idx := 133) (by decide +kernel) rfl (by decide) rfl (by decide) rfl zin_4 zq_42
theorem zr_30_55 : zSnd 30 55 (o_callv 4 161 2 4 1 58) := zS_callVN (n := 1) (idx := 141) (by decide +kernel) rfl rfl (by decide) rfl zq_46 zq_47 zq_48 (by decide +kernel) zMk_161 (by decide +kernel) (by decide +kernel) (by decide +kernel)
theorem zr_30_58 : zSnd 30 58 (o_iret) := zS_iret (by decide +kernel) (by decide +kernel)
theorem zT_30 (pc : Nat) : zSnd 30 pc (zc_30 pc) := by
  unfold zc_30
  exact (zSn_nd (zSn_nd (zSn_nd (zSn_nd (zSn_lf zr_30_0) (zSn_nd (zSn_lf zr_30_1) (zSn_lf zr_30_4))) (zSn_nd (zSn_lf zr_30_5) (zSn_nd (zSn_lf zr_30_8) (zSn_lf zr_30_9)))) (zSn_nd (zSn_nd (zSn_lf zr_30_12) (zSn_nd (zSn_lf zr_30_13) (zSn_lf zr_30_16))) (zSn_nd (zSn_nd (zSn_lf zr_30_19) (zSn_lf zr_30_22)) (zSn_nd (zSn_lf zr_30_23) (zSn_lf zr_30_26))))) (zSn_nd (zSn_nd (zSn_nd (zSn_lf zr_30_27) (zSn_nd (zSn_lf zr_30_30) (zSn_lf zr_30_33))) (zSn_nd (zSn_nd (zSn_lf zr_30_36) (zSn_lf zr_30_37)) (zSn_nd (zSn_lf zr_30_40) (zSn_lf zr_30_41)))) (zSn_nd (zSn_nd (zSn_lf zr_30_44) (zSn_nd (zSn_lf zr_30_45) (zSn_lf zr_30_48))) (zSn_nd (zSn_nd (zSn_lf zr_30_49) (zSn_lf zr_30_52)) (zSn_nd (zSn_lf zr_30_55) (zSn_lf zr_30_58))))))
theorem zr_31_0 : zSnd 31 0 (o_aload 0 1) := zS_aload_n (i := 0) (by decide +kernel) rfl rfl
theorem zr_31_1 : zSnd 31 1 (o_getf 5 1 4) := zS_getf (idx := 20) (by decide +kernel) rfl (by decide) rfl (by decide) rfl zin_5 zq_2
theorem zr_31_4 : zSnd 31 4 (o_getf 4 6 7) := zS_getfN (idx := 179) (by decide +kernel) rfl (by decide) rfl (by decide) rfl zin_4 zq_63
theorem zr_31_7 : zSnd 31 7 (o_iload 1 8) := zS_iload_n (i := 1) (by decide +kernel) rfl rfl
theorem zr_31_8 : zSnd 31 8 (o_iald 9) := zS_iald (by decide +kernel) rfl
theorem zr_31_9 : zSnd 31 9 (o_const 1 10) := zS_iconst (by decide +kernel) rfl (by decide)
theorem zr_31_10 : zSnd 31 10 (o_cgt 22 13) := zS_cgt (by decide +kernel : decode (zmB 31) 10 = .ok (.if_icmp .gt 12, 3)) rfl (by decide)
theorem zr_31_13 : zSnd 31 13 (o_aload 0 14) := zS_aload_n (i := 0) (by decide +kernel) rfl rfl
theorem zr_31_14 : zSnd 31 14 (o_getf 5 0 17) := zS_getf (idx := 12) (by decide +kernel) rfl (by decide) rfl (by decide) rfl zin_5 zq_38
theorem zr_31_17 : zSnd 31 17 (o_iload 2 18) := zS_iload_n (i := 2) (by decide +kernel) rfl rfl
theorem zr_31_18 : zSnd 31 18 (o_callv 3 132 2 2 1 21) := zS_callVN (n := 1) (idx := 245) (by decide +kernel) rfl rfl (by decide) rfl zq_93 zq_94 zq_95 (by decide +kernel) zMk_132 (by decide +kernel) (by decide +kernel) (by decide +kernel)
theorem zr_31_21 : zSnd 31 21 (o_iret) := zS_iret (by decide +kernel) (by decide +kernel)
theorem zr_31_22 : zSnd 31 22 (o_aload 0 23) := zS_aload_n (i := 0) (by decide +kernel) rfl rfl
theorem zr_31_23 : zSnd 31 23 (o_getf 5 1 26) := zS_getf (idx := 20) (by decide +kernel) rfl (by decide) rfl (by decide) rfl zin_5 zq_2
theorem zr_31_26 : zSnd 31 26 (o_getf 4 6 29) := zS_getfN (idx := 179) (by decide +kernel) rfl (by decide) rfl (by decide) rfl zin_4 zq_63
theorem zr_31_29 : zSnd 31 29 (o_iload 1 30) := zS_iload_n (i := 1) (by decide +kernel) rfl rfl
theorem zr_31_30 : zSnd 31 30 (o_dup2 31) := zS_dup2 (by decide +kernel) rfl
theorem zr_31_31 : zSnd 31 31 (o_iald 32) := zS_iald (by decide +kernel) rfl
theorem zr_31_32 : zSnd 31 32 (o_const 1 33) := zS_iconst (by decide +kernel) rfl (by decide)
theorem zr_31_33 : zSnd 31 33 (o_isub 34) := zS_isub (by decide +kernel) rfl
theorem zr_31_34 : zSnd 31 34 (o_iast 35) := zS_iast (by decide +kernel) rfl
theorem zr_31_35 : zSnd 31 35 (o_aload 0 36) := zS_aload_n (i := 0) (by decide +kernel) rfl rfl
theorem zr_31_36 : zSnd 31 36 (o_getf 5 0 39) := zS_getf (idx := 12) (by decide +kernel) rfl (by decide) rfl (by decide) rfl zin_5 zq_38
theorem zr_31_39 : zSnd 31 39 (o_iload 2 40) := zS_iload_n (i := 2) (by decide +kernel) rfl rfl
theorem zr_31_40 : zSnd 31 40 (o_callv 3 132 2 2 1 43) := zS_callVN (n := 1) (idx := 245) (by decide +kernel) rfl rfl (by decide) rfl zq_93 zq_94 zq_95 (by decide +kernel) zMk_132 (by decide +kernel) (by decide +kernel) (by decide +kernel)
theorem zr_31_43 : zSnd 31 43 (o_istore 3 44) := zS_istore_n (i := 3) (by decide +kernel) rfl rfl (by decide +kernel)
theorem zr_31_44 : zSnd 31 44 (o_aload 0 45) := zS_aload_n (i := 0) (by decide +kernel) rfl rfl
theorem zr_31_45 : zSnd 31 45 (o_getf 5 1 48) := zS_getf (idx := 20) (by decide +kernel) rfl (by decide) rfl (by decide) rfl zin_5 zq_2
theorem zr_31_48 : zSnd 31 48 (o_getf 4 6 51) := zS_getfN (idx := 179) (by decide +kernel) rfl (by decide) rfl (by decide) rfl zin_4 zq_63
theorem zr_31_51 : zSnd 31 51 (o_iload 1 52) := zS_iload_n (i := 1) (by decide +kernel) rfl rfl
theorem zr_31_52 : zSnd 31 52 (o_dup2 53) := zS_dup2 (by decide +kernel) rfl
theorem zr_31_53 : zSnd 31 53 (o_iald 54) := zS_iald (by decide +kernel) rfl
theorem zr_31_54 : zSnd 31 54 (o_const 1 55) := zS_iconst (by decide +kernel) rfl (by decide)
theorem zr_31_55 : zSnd 31 55 (o_iadd 56) := zS_iadd (by decide +kernel) rfl
theorem zr_31_56 : zSnd 31 56 (o_iast 57) := zS_iast (by decide +kernel) rfl
theorem zr_31_57 : zSnd 31 57 (o_iload 3 58) := zS_iload_n (i := 3) (by decide +kernel) rfl rfl
theorem zr_31_58 : zSnd 31 58 (o_iret) := zS_iret (by decide +kernel) (by decide +kernel)
theorem zT_31 (pc : Nat) : zSnd 31 pc (zc_31 pc) := by
  unfold zc_31
  exact (zSn_nd (zSn_nd (zSn_nd (zSn_nd (zSn_nd (zSn_lf zr_31_0) (zSn_lf zr_31_1)) (zSn_nd (zSn_lf zr_31_4) (zSn_lf zr_31_7))) (zSn_nd (zSn_nd (zSn_lf zr_31_8) (zSn_lf zr_31_9)) (zSn_nd (zSn_lf zr_31_10) (zSn_nd (zSn_lf zr_31_13) (zSn_lf zr_31_14))))) (zSn_nd (zSn_nd (zSn_nd (zSn_lf zr_31_17) (zSn_lf zr_31_18)) (zSn_nd (zSn_lf zr_31_21) (zSn_lf zr_31_22))) (zSn_nd (zSn_nd (zSn_lf zr_31_23) (zSn_lf zr_31_26)) (zSn_nd (zSn_lf zr_31_29) (zSn_nd (zSn_lf zr_31_30) (zSn_lf zr_31_31)))))) (zSn_nd (zSn_nd (zSn_nd (zSn_nd (zSn_lf zr_31_32) (zSn_lf zr_31_33)) (zSn_nd (zSn_lf zr_31_34) (zSn_lf zr_31_35))) (zSn_nd (zSn_nd (zSn_lf zr_31_36) (zSn_lf zr_31_39)) (zSn_nd (zSn_lf zr_31_40) (zSn_nd (zSn_lf zr_31_43) (zSn_lf zr_31_44))))) (zSn_nd (zSn_nd (zSn_nd (zSn_lf zr_31_45) (zSn_lf zr_31_48)) (zSn_nd (zSn_lf zr_31_51) (zSn_nd (zSn_lf zr_31_52) (zSn_lf zr_31_53)))) (zSn_nd (zSn_nd (zSn_lf zr_31_54) (zSn_lf zr_31_55)) (zSn_nd (zSn_lf zr_31_56) (zSn_nd (zSn_lf zr_31_57) (zSn_lf zr_31_58)))))))
theorem zr_33_0 : zSnd 33 0 (o_iload 1 1) := zS_iload_n (i := 1) (by decide +kernel) rfl rfl
theorem zr_33_1 : zSnd 33 1 (o_iload 0 2) := zS_iload_n (i := 0) (by decide +kernel) rfl rfl
theorem zr_33_2 : zSnd 33 2 (o_cgt 14 5) := zS_cgt (by decide +kernel : decode (zmB 33) 2 = .ok (.if_icmp .gt 12, 3)) rfl (by decide)
theorem zr_33_5 : zSnd 33 5 (o_iload 0 6) := zS_iload_n (i := 0) (by decide +kernel) rfl rfl
theorem zr_33_6 : zSnd 33 6 (o_iload 2 7) := zS_iload_n (i := 2) (by decide +kernel) rfl rfl
theorem zr_33_7 : zSnd 33 7 (o_cgt 14 10) := zS_cgt (by decide +kernel : decode (zmB 33) 7 = .ok (.if_icmp .gt 7, 3)) rfl (by decide)
theorem zr_33_10 : zSnd 33 10 (o_const 1 11) := zS_iconst (by decide +kernel) rfl (by decide)
theorem zr_33_11 : zSnd 33 11 (o_goto 15) := zS_goto (by decide +kernel : decode (zmB 33) 11 = .ok (.goto 4, 3)) (by decide)
theorem zr_33_14 : zSnd 33 14 (o_const 0 15) := zS_iconst (by decide +kernel) rfl (by decide)
theorem zr_33_15 : zSnd 33 15 (o_zret) := zS_zret (by decide +kernel) (by decide +kernel)
theorem zT_33 (pc : Nat) : zSnd 33 pc (zc_33 pc) := by
  unfold zc_33
  exact (zSn_nd (zSn_nd (zSn_nd (zSn_lf zr_33_0) (zSn_lf zr_33_1)) (zSn_nd (zSn_lf zr_33_2) (zSn_nd (zSn_lf zr_33_5) (zSn_lf zr_33_6)))) (zSn_nd (zSn_nd (zSn_lf zr_33_7) (zSn_lf zr_33_10)) (zSn_nd (zSn_lf zr_33_11) (zSn_nd (zSn_lf zr_33_14) (zSn_lf zr_33_15)))))
theorem zr_34_0 : zSnd 34 0 (o_iload 0 1) := zS_iload_n (i := 0) (by decide +kernel) rfl rfl
theorem zr_34_1 : zSnd 34 1 (o_const 0 2) := zS_iconst (by decide +kernel) rfl (by decide)
theorem zr_34_2 : zSnd 34 2 (o_const 3 3) := zS_iconst (by decide +kernel) rfl (by decide)
theorem zr_34_3 : zSnd 34 3 (o_call 33 3 3 1 6) := zS_callS (idx := 35) (by decide +kernel) rfl zq_0 zq_1 (by decide +kernel) zMk_33 (by decide +kernel) (by decide +kernel) (by decide +kernel)
theorem zr_34_6 : zSnd 34 6 (o_zret) := zS_zret (by decide +kernel) (by decide +kernel)
theorem zT_34 (pc : Nat) : zSnd 34 pc (zc_34 pc) := by
  unfold zc_34
  exact (zSn_nd (zSn_nd (zSn_lf zr_34_0) (zSn_lf zr_34_1)) (zSn_nd (zSn_lf zr_34_2) (zSn_nd (zSn_lf zr_34_3) (zSn_lf zr_34_6))))
theorem zr_35_0 : zSnd 35 0 (o_const 5 1) := zS_iconst (by decide +kernel) rfl (by decide)
theorem zr_35_1 : zSnd 35 1 (o_iload 0 2) := zS_iload_n (i := 0) (by decide +kernel) rfl rfl
theorem zr_35_2 : zSnd 35 2 (o_imul 3) := zS_imul (by decide +kernel) rfl
theorem zr_35_3 : zSnd 35 3 (o_iload 1 4) := zS_iload_n (i := 1) (by decide +kernel) rfl rfl
theorem zr_35_4 : zSnd 35 4 (o_iadd 5) := zS_iadd (by decide +kernel) rfl
theorem zr_35_5 : zSnd 35 5 (o_iret) := zS_iret (by decide +kernel) (by decide +kernel)
theorem zT_35 (pc : Nat) : zSnd 35 pc (zc_35 pc) := by
  unfold zc_35
  exact (zSn_nd (zSn_nd (zSn_lf zr_35_0) (zSn_nd (zSn_lf zr_35_1) (zSn_lf zr_35_2))) (zSn_nd (zSn_lf zr_35_3) (zSn_nd (zSn_lf zr_35_4) (zSn_lf zr_35_5))))
theorem zr_117_0 : zSnd 117 0 (o_aload 0 1) := zS_aload_n (i := 0) (by decide +kernel) rfl rfl
theorem zr_117_1 : zSnd 117 1 (o_getf 1 0 4) := zS_getf (idx := 11) (by decide +kernel) rfl (by decide) rfl (by decide) rfl zin_1 zq_120
theorem zr_117_4 : zSnd 117 4 (o_aload 0 5) := zS_aload_n (i := 0) (by decide +kernel) rfl rfl
theorem zr_117_5 : zSnd 117 5 (o_getf 1 1 8) := zS_getf (idx := 18) (by decide +kernel) rfl (by decide) rfl (by decide) rfl zin_1 zq_121
theorem zr_117_8 : zSnd 117 8 (o_aald 9) := zS_aald (by decide +kernel) rfl
theorem zr_117_9 : zSnd 117 9 (o_aload 1 10) := zS_aload_n (i := 1) (by decide +kernel) rfl rfl
theorem zr_117_10 : zSnd 117 10 (o_callv 4 145 2 2 0 13) := zS_callVN (n := 1) (idx := 22) (by decide +kernel) rfl rfl (by decide) rfl zq_122 zq_123 zq_124 (by decide +kernel) zMk_145 (by decide +kernel) (by decide +kernel) (by decide +kernel)
theorem zr_117_13 : zSnd 117 13 (o_aload 0 14) := zS_aload_n (i := 0) (by decide +kernel) rfl rfl
theorem zr_117_14 : zSnd 117 14 (o_aload 0 15) := zS_aload_n (i := 0) (by decide +kernel) rfl rfl
theorem zr_117_15 : zSnd 117 15 (o_getf 1 1 18) := zS_getf (idx := 18) (by decide +kernel) rfl (by decide) rfl (by decide) rfl zin_1 zq_121
theorem zr_117_18 : zSnd 117 18 (o_const 1 19) := zS_iconst (by decide +kernel) rfl (by decide)
theorem zr_117_19 : zSnd 117 19 (o_iadd 20) := zS_iadd (by decide +kernel) rfl
theorem zr_117_20 : zSnd 117 20 (o_const 4 21) := zS_iconst (by decide +kernel) rfl (by decide)
theorem zr_117_21 : zSnd 117 21 (o_cge 33 24) := zS_cge (by decide +kernel : decode (zmB 117) 21 = .ok (.if_icmp .ge 12, 3)) rfl (by decide)
theorem zr_117_24 : zSnd 117 24 (o_aload 0 25) := zS_aload_n (i := 0) (by decide +kernel) rfl rfl
theorem zr_117_25 : zSnd 117 25 (o_getf 1 1 28) := zS_getf (idx := 18) (by decide +kernel) rfl (by decide) rfl (by decide) rfl zin_1 zq_121
theorem zr_117_28 : zSnd 117 28 (o_const 1 29) := zS_iconst (by decide +kernel) rfl (by decide)
theorem zr_117_29 : zSnd 117 29 (o_iadd 30) := zS_iadd (by decide +kernel) rfl
theorem zr_117_30 : zSnd 117 30 (o_goto 34) := zS_goto (by decide +kernel : decode (zmB 117) 30 = .ok (.goto 4, 3)) (by decide)
theorem zr_117_33 : zSnd 117 33 (o_const 0 34) := zS_iconst (by decide +kernel) rfl (by decide)
theorem zr_117_34 : zSnd 117 34 (o_putf 1 1 37) := zS_putf (idx := 18) (by decide +kernel) rfl (by decide) rfl (by decide) rfl zin_1 tyX0_ok nmX0 rfl (by decide +kernel) zq_121
theorem zr_117_37 : zSnd 117 37 (o_aload 0 38) := zS_aload_n (i := 0) (by decide +kernel) rfl rfl
theorem zr_117_38 : zSnd 117 38 (o_aload 0 39) := zS_aload_n (i := 0) (by decide +kernel) rfl rfl
theorem zr_117_39 : zSnd 117 39 (o_getf 1 2 42) := zS_getf (idx := 26) (by decide +kernel) rfl (by decide) rfl (by decide) rfl zin_1 zq_125
theorem zr_117_42 : zSnd 117 42 (o_const 1 43) := zS_iconst (by decide +kernel) rfl (by decide)
theorem zr_117_43 : zSnd 117 43 (o_iadd 44) := zS_iadd (by decide +kernel) rfl
theorem zr_117_44 : zSnd 117 44 (o_const 4 45) := zS_iconst (by decide +kernel) rfl (by decide)
theorem zr_117_45 : zSnd 117 45 (o_min 48) := zS_min (idx := 29) (by decide +kernel) rfl zq_126 zq_105 zq_106 zq_107 (by decide +kernel)
theorem zr_117_48 : zSnd 117 48 (o_putf 1 2 51) := zS_putf (idx := 26) (by decide +kernel) rfl (by decide) rfl (by decide) rfl zin_1 tyX0_ok nmX0 rfl (by decide +kernel) zq_125
theorem zr_117_51 : zSnd 117 51 (o_ret) := zS_ret (by decide +kernel) (by decide +kernel)
theorem zT_117 (pc : Nat) : zSnd 117 pc (zc_117 pc) := by
  unfold zc_117
  exact (zSn_nd (zSn_nd (zSn_nd (zSn_nd (zSn_lf zr_117_0) (zSn_nd (zSn_lf zr_117_1) (zSn_lf zr_117_4))) (zSn_nd (zSn_nd (zSn_lf zr_117_5) (zSn_lf zr_117_8)) (zSn_nd (zSn_lf zr_117_9) (zSn_lf zr_117_10)))) (zSn_nd (zSn_nd (zSn_nd (zSn_lf zr_117_13) (zSn_lf zr_117_14)) (zSn_nd (zSn_lf zr_117_15) (zSn_lf zr_117_18))) (zSn_nd (zSn_nd (zSn_lf zr_117_19) (zSn_lf zr_117_20)) (zSn_nd (zSn_lf zr_117_21) (zSn_lf zr_117_24))))) (zSn_nd (zSn_nd (zSn_nd (zSn_lf zr_117_25) (zSn_nd (zSn_lf zr_117_28) (zSn_lf zr_117_29))) (zSn_nd (zSn_nd (zSn_lf zr_117_30) (zSn_lf zr_117_33)) (zSn_nd (zSn_lf zr_117_34) (zSn_lf zr_117_37)))) (zSn_nd (zSn_nd (zSn_nd (zSn_lf zr_117_38) (zSn_lf zr_117_39)) (zSn_nd (zSn_lf zr_117_42) (zSn_lf zr_117_43))) (zSn_nd (zSn_nd (zSn_lf zr_117_44) (zSn_lf zr_117_45)) (zSn_nd (zSn_lf zr_117_48) (zSn_lf zr_117_51))))))
theorem zr_130_0 : zSnd 130 0 (o_aload 0 1) := zS_aload_n (i := 0) (by decide +kernel) rfl rfl
theorem zr_130_1 : zSnd 130 1 (o_getf 3 1 4) := zS_getf (idx := 18) (by decide +kernel) rfl (by decide) rfl (by decide) rfl zin_3 zq_127
theorem zr_130_4 : zSnd 130 4 (o_const 0 5) := zS_iconst (by decide +kernel) rfl (by decide)
theorem zr_130_5 : zSnd 130 5 (o_aload 1 6) := zS_aload_n (i := 1) (by decide +kernel) rfl rfl
theorem zr_130_6 : zSnd 130 6 (o_const 0 7) := zS_iconst (by decide +kernel) rfl (by decide)
theorem zr_130_7 : zSnd 130 7 (o_const 30 9) := zS_bipush (by decide +kernel) rfl (by decide) (by decide)
theorem zr_130_9 : zSnd 130 9 (o_copy 12) := zS_copy (idx := 28) (by decide +kernel) rfl zq_128 zq_129 zq_130 zq_131 (by decide +kernel)
theorem zr_130_12 : zSnd 130 12 (o_ret) := zS_ret (by decide +kernel) (by decide +kernel)
theorem zT_130 (pc : Nat) : zSnd 130 pc (zc_130 pc) := by
  unfold zc_130
  exact (zSn_nd (zSn_nd (zSn_nd (zSn_lf zr_130_0) (zSn_lf zr_130_1)) (zSn_nd (zSn_lf zr_130_4) (zSn_lf zr_130_5))) (zSn_nd (zSn_nd (zSn_lf zr_130_6) (zSn_lf zr_130_7)) (zSn_nd (zSn_lf zr_130_9) (zSn_lf zr_130_12))))
theorem zr_131_0 : zSnd 131 0 (o_aload 0 1) := zS_aload_n (i := 0) (by decide +kernel) rfl rfl
theorem zr_131_1 : zSnd 131 1 (o_getf 3 0 4) := zS_getf (idx := 12) (by decide +kernel) rfl (by decide) rfl (by decide) rfl zin_3 zq_132
theorem zr_131_4 : zSnd 131 4 (o_aload 0 5) := zS_aload_n (i := 0) (by decide +kernel) rfl rfl
theorem zr_131_5 : zSnd 131 5 (o_getf 3 1 8) := zS_getf (idx := 18) (by decide +kernel) rfl (by decide) rfl (by decide) rfl zin_3 zq_127
theorem zr_131_8 : zSnd 131 8 (o_callv 4 161 2 4 1 11) := zS_callVN (n := 1) (idx := 34) (by decide +kernel) rfl rfl (by decide) rfl zq_133 zq_47 zq_48 (by decide +kernel) zMk_161 (by decide +kernel) (by decide +kernel) (by decide +kernel)
theorem zr_131_11 : zSnd 131 11 (o_iret) := zS_iret (by decide +kernel) (by decide +kernel)
theorem zT_131 (pc : Nat) : zSnd 131 pc (zc_131 pc) := by
  unfold zc_131
  exact (zSn_nd (zSn_nd (zSn_lf zr_131_0) (zSn_nd (zSn_lf zr_131_1) (zSn_lf zr_131_4))) (zSn_nd (zSn_lf zr_131_5) (zSn_nd (zSn_lf zr_131_8) (zSn_lf zr_131_11))))
theorem zr_132_0 : zSnd 132 0 (o_aload 0 1) := zS_aload_n (i := 0) (by decide +kernel) rfl rfl
theorem zr_132_1 : zSnd 132 1 (o_iload 1 2) := zS_iload_n (i := 1) (by decide +kernel) rfl rfl
theorem zr_132_2 : zSnd 132 2 (o_callv 3 134 2 2 0 5) := zS_callV (n := 1) (idx := 38) (by decide +kernel) rfl rfl (by decide) rfl zq_134 zq_118 zq_119 (by decide +kernel) zMk_134 (by decide +kernel) (by decide +kernel) (by decide +kernel)
theorem zr_132_5 : zSnd 132 5 (o_aload 0 6) := zS_aload_n (i := 0) (by decide +kernel) rfl rfl
theorem zr_132_6 : zSnd 132 6 (o_callv 3 131 1 1 1 9) := zS_callV (n := 0) (idx := 42) (by decide +kernel) rfl rfl (by decide) rfl zq_135 zq_97 zq_98 (by decide +kernel) zMk_131 (by decide +kernel) (by decide +kernel) (by decide +kernel)
theorem zr_132_9 : zSnd 132 9 (o_iret) := zS_iret (by decide +kernel) (by decide +kernel)
theorem zT_132 (pc : Nat) : zSnd 132 pc (zc_132 pc) := by
  unfold zc_132
  exact (zSn_nd (zSn_nd (zSn_lf zr_132_0) (zSn_nd (zSn_lf zr_132_1) (zSn_lf zr_132_2))) (zSn_nd (zSn_lf zr_132_5) (zSn_nd (zSn_lf zr_132_6) (zSn_lf zr_132_9))))
theorem zr_133_0 : zSnd 133 0 (o_aload 0 1) := zS_aload_n (i := 0) (by decide +kernel) rfl rfl
theorem zr_133_1 : zSnd 133 1 (o_iload 1 2) := zS_iload_n (i := 1) (by decide +kernel) rfl rfl
theorem zr_133_2 : zSnd 133 2 (o_iload 2 3) := zS_iload_n (i := 2) (by decide +kernel) rfl rfl
theorem zr_133_3 : zSnd 133 3 (o_callv 3 135 3 4 0 6) := zS_callV (n := 2) (idx := 46) (by decide +kernel) rfl rfl (by decide) rfl zq_136 zq_50 zq_51 (by decide +kernel) zMk_135 (by decide +kernel) (by decide +kernel) (by decide +kernel)
theorem zr_133_6 : zSnd 133 6 (o_aload 0 7) := zS_aload_n (i := 0) (by decide +kernel) rfl rfl
theorem zr_133_7 : zSnd 133 7 (o_callv 3 131 1 1 1 10) := zS_callV (n := 0) (idx := 42) (by decide +kernel) rfl rfl (by decide) rfl zq_135 zq_97 zq_98 (by decide +kernel) zMk_131 (by decide +kernel) (by decide +kernel) (by decide +kernel)
theorem zr_133_10 : zSnd 133 10 (o_iret) := zS_iret (by decide +kernel) (by decide +kernel)
theorem zT_133 (pc : Nat) : zSnd 133 pc (zc_133 pc) := by
  unfold zc_133
  exact (zSn_nd (zSn_nd (zSn_lf zr_133_0) (zSn_nd (zSn_lf zr_133_1) (zSn_lf zr_133_2))) (zSn_nd (zSn_nd (zSn_lf zr_133_3) (zSn_lf zr_133_6)) (zSn_nd (zSn_lf zr_133_7) (zSn_lf zr_133_10))))
theorem zr_134_0 : zSnd 134 0 (o_aload 0 1) := zS_aload_n (i := 0) (by decide +kernel) rfl rfl
theorem zr_134_1 : zSnd 134 1 (o_callv 3 136 1 2 0 4) := zS_callV (n := 0) (idx := 50) (by decide +kernel) rfl rfl (by decide) rfl zq_137 zq_138 zq_139 (by decide +kernel) zMk_136 (by decide +kernel) (by decide +kernel) (by decide +kernel)
theorem zr_134_4 : zSnd 134 4 (o_aload 0 5) := zS_aload_n (i := 0) (by decide +kernel) rfl rfl
theorem zr_134_5 : zSnd 134 5 (o_const 0 6) := zS_iconst (by decide +kernel) rfl (by decide)
theorem zr_134_6 : zSnd 134 6 (o_iload 1 7) := zS_iload_n (i := 1) (by decide +kernel) rfl rfl
theorem zr_134_7 : zSnd 134 7 (o_callv 3 138 3 8 0 10) := zS_callV (n := 2) (idx := 53) (by decide +kernel) rfl rfl (by decide) rfl zq_140 zq_141 zq_142 (by decide +kernel) zMk_138 (by decide +kernel) (by decide +kernel) (by decide +kernel)
theorem zr_134_10 : zSnd 134 10 (o_ret) := zS_ret (by decide +kernel) (by decide +kernel)
theorem zT_134 (pc : Nat) : zSnd 134 pc (zc_134 pc) := by
  unfold zc_134
  exact (zSn_nd (zSn_nd (zSn_lf zr_134_0) (zSn_nd (zSn_lf zr_134_1) (zSn_lf zr_134_4))) (zSn_nd (zSn_nd (zSn_lf zr_134_5) (zSn_lf zr_134_6)) (zSn_nd (zSn_lf zr_134_7) (zSn_lf zr_134_10))))
theorem zr_135_0 : zSnd 135 0 (o_aload 0 1) := zS_aload_n (i := 0) (by decide +kernel) rfl rfl
theorem zr_135_1 : zSnd 135 1 (o_callv 3 136 1 2 0 4) := zS_callV (n := 0) (idx := 50) (by decide +kernel) rfl rfl (by decide) rfl zq_137 zq_138 zq_139 (by decide +kernel) zMk_136 (by decide +kernel) (by decide +kernel) (by decide +kernel)
theorem zr_135_4 : zSnd 135 4 (o_const 0 5) := zS_iconst (by decide +kernel) rfl (by decide)
theorem zr_135_5 : zSnd 135 5 (o_istore 3 6) := zS_istore_n (i := 3) (by decide +kernel) rfl rfl (by decide +kernel)
theorem zr_135_6 : zSnd 135 6 (o_iload 3 7) := zS_iload_n (i := 3) (by decide +kernel) rfl rfl
theorem zr_135_7 : zSnd 135 7 (o_aload 0 8) := zS_aload_n (i := 0) (by decide +kernel) rfl rfl
theorem zr_135_8 : zSnd 135 8 (o_getf 3 0 11) := zS_getf (idx := 12) (by decide +kernel) rfl (by decide) rfl (by decide) rfl zin_3 zq_132
theorem zr_135_11 : zSnd 135 11 (o_getf 4 1 14) := zS_getfN (idx := 56) (by decide +kernel) rfl (by decide) rfl (by decide) rfl zin_4 zq_143
theorem zr_135_14 : zSnd 135 14 (o_cge 29 17) := zS_cge (by decide +kernel : decode (zmB 135) 14 = .ok (.if_icmp .ge 15, 3)) rfl (by decide)
theorem zr_135_17 : zSnd 135 17 (o_aload 0 18) := zS_aload_n (i := 0) (by decide +kernel) rfl rfl
theorem zr_135_18 : zSnd 135 18 (o_iload 3 19) := zS_iload_n (i := 3) (by decide +kernel) rfl rfl
theorem zr_135_19 : zSnd 135 19 (o_iload 1 20) := zS_iload_n (i := 1) (by decide +kernel) rfl rfl
theorem zr_135_20 : zSnd 135 20 (o_callv 3 137 3 6 0 23) := zS_callV (n := 2) (idx := 60) (by decide +kernel) rfl rfl (by decide) rfl zq_144 zq_145 zq_146 (by decide +kernel) zMk_137 (by decide +kernel) (by decide +kernel) (by decide +kernel)
theorem zr_135_23 : zSnd 135 23 (o_iinc 3 1 26) := zS_iinc (by decide +kernel) rfl (by decide +kernel)
theorem zr_135_26 : zSnd 135 26 (o_goto 6) := zS_goto (by decide +kernel : decode (zmB 135) 26 = .ok (.goto (-20), 3)) (by decide)
theorem zr_135_29 : zSnd 135 29 (o_aload 0 30) := zS_aload_n (i := 0) (by decide +kernel) rfl rfl
theorem zr_135_30 : zSnd 135 30 (o_iload 1 31) := zS_iload_n (i := 1) (by decide +kernel) rfl rfl
theorem zr_135_31 : zSnd 135 31 (o_iload 2 32) := zS_iload_n (i := 2) (by decide +kernel) rfl rfl
theorem zr_135_32 : zSnd 135 32 (o_callv 3 138 3 8 0 35) := zS_callV (n := 2) (idx := 53) (by decide +kernel) rfl rfl (by decide) rfl zq_140 zq_141 zq_142 (by decide +kernel) zMk_138 (by decide +kernel) (by decide +kernel) (by decide +kernel)
theorem zr_135_35 : zSnd 135 35 (o_ret) := zS_ret (by decide +kernel) (by decide +kernel)
theorem zT_135 (pc : Nat) : zSnd 135 pc (zc_135 pc) := by
  unfold zc_135
  exact (zSn_nd (zSn_nd (zSn_nd (zSn_nd (zSn_lf zr_135_0) (zSn_lf zr_135_1)) (zSn_nd (zSn_lf zr_135_4) (zSn_nd (zSn_lf zr_135_5) (zSn_lf zr_135_6)))) (zSn_nd (zSn_nd (zSn_lf zr_135_7) (zSn_lf zr_135_8)) (zSn_nd (zSn_lf zr_135_11) (zSn_nd (zSn_lf zr_135_14) (zSn_lf zr_135_17))))) (zSn_nd (zSn_nd (zSn_nd (zSn_lf zr_135_18) (zSn_lf zr_135_19)) (zSn_nd (zSn_lf zr_135_20) (zSn_nd (zSn_lf zr_135_23) (zSn_lf zr_135_26)))) (zSn_nd (zSn_nd (zSn_lf zr_135_29) (zSn_lf zr_135_30)) (zSn_nd (zSn_lf zr_135_31) (zSn_nd (zSn_lf zr_135_32) (zSn_lf zr_135_35))))))
theorem zr_136_0 : zSnd 136 0 (o_const 0 1) := zS_iconst (by decide +kernel) rfl (by decide)
theorem zr_136_1 : zSnd 136 1 (o_istore 1 2) := zS_istore_n (i := 1) (by decide +kernel) rfl rfl (by decide +kernel)
theorem zr_136_2 : zSnd 136 2 (o_iload 1 3) := zS_iload_n (i := 1) (by decide +kernel) rfl rfl
theorem zr_136_3 : zSnd 136 3 (o_const 6 5) := zS_bipush (by decide +kernel) rfl (by decide) (by decide)
theorem zr_136_5 : zSnd 136 5 (o_cge 21 8) := zS_cge (by decide +kernel : decode (zmB 136) 5 = .ok (.if_icmp .ge 16, 3)) rfl (by decide)
theorem zr_136_8 : zSnd 136 8 (o_aload 0 9) := zS_aload_n (i := 0) (by decide +kernel) rfl rfl
theorem zr_136_9 : zSnd 136 9 (o_getf 3 2 12) := zS_getf (idx := 22) (by decide +kernel) rfl (by decide) rfl (by decide) rfl zin_3 zq_147
theorem zr_136_12 : zSnd 136 12 (o_iload 1 13) := zS_iload_n (i := 1) (by decide +kernel) rfl rfl
theorem zr_136_13 : zSnd 136 13 (o_const 0 14) := zS_iconst (by decide +kernel) rfl (by decide)
theorem zr_136_14 : zSnd 136 14 (o_iast 15) := zS_iast (by decide +kernel) rfl
theorem zr_136_15 : zSnd 136 15 (o_iinc 1 1 18) := zS_iinc (by decide +kernel) rfl (by decide +kernel)
theorem zr_136_18 : zSnd 136 18 (o_goto 2) := zS_goto (by decide +kernel : decode (zmB 136) 18 = .ok (.goto (-16), 3)) (by decide)
theorem zr_136_21 : zSnd 136 21 (o_const 0 22) := zS_iconst (by decide +kernel) rfl (by decide)
theorem zr_136_22 : zSnd 136 22 (o_istore 1 23) := zS_istore_n (i := 1) (by decide +kernel) rfl rfl (by decide +kernel)
theorem zr_136_23 : zSnd 136 23 (o_iload 1 24) := zS_iload_n (i := 1) (by decide +kernel) rfl rfl
theorem zr_136_24 : zSnd 136 24 (o_const 5 25) := zS_iconst (by decide +kernel) rfl (by decide)
theorem zr_136_25 : zSnd 136 25 (o_cge 41 28) := zS_cge (by decide +kernel : decode (zmB 136) 25 = .ok (.if_icmp .ge 16, 3)) rfl (by decide)
theorem zr_136_28 : zSnd 136 28 (o_aload 0 29) := zS_aload_n (i := 0) (by decide +kernel) rfl rfl
theorem zr_136_29 : zSnd 136 29 (o_getf 3 3 32) := zS_getf (idx := 25) (by decide +kernel) rfl (by decide) rfl (by decide) rfl zin_3 zq_148
theorem zr_136_32 : zSnd 136 32 (o_iload 1 33) := zS_iload_n (i := 1) (by decide +kernel) rfl rfl
theorem zr_136_33 : zSnd 136 33 (o_const 0 34) := zS_iconst (by decide +kernel) rfl (by decide)
theorem zr_136_34 : zSnd 136 34 (o_iast 35) := zS_iast (by decide +kernel) rfl
theorem zr_136_35 : zSnd 136 35 (o_iinc 1 1 38) := zS_iinc (by decide +kernel) rfl (by decide +kernel)
theorem zr_136_38 : zSnd 136 38 (o_goto 23) := zS_goto (by decide +kernel : decode (zmB 136) 38 = .ok (.goto (-15), 3)) (by decide)
theorem zr_136_41 : zSnd 136 41 (o_ret) := zS_ret (by decide +kernel) (by decide +kernel)
theorem zT_136 (pc : Nat) : zSnd 136 pc (zc_136 pc) := by
  unfold zc_136
  exact (zSn_nd (zSn_nd (zSn_nd (zSn_nd (zSn_lf zr_136_0) (zSn_nd (zSn_lf zr_136_1) (zSn_lf zr_136_2))) (zSn_nd (zSn_lf zr_136_3) (zSn_nd (zSn_lf zr_136_5) (zSn_lf zr_136_8)))) (zSn_nd (zSn_nd (zSn_lf zr_136_9) (zSn_nd (zSn_lf zr_136_12) (zSn_lf zr_136_13))) (zSn_nd (zSn_lf zr_136_14) (zSn_nd (zSn_lf zr_136_15) (zSn_lf zr_136_18))))) (zSn_nd (zSn_nd (zSn_nd (zSn_lf zr_136_21) (zSn_nd (zSn_lf zr_136_22) (zSn_lf zr_136_23))) (zSn_nd (zSn_lf zr_136_24) (zSn_nd (zSn_lf zr_136_25) (zSn_lf zr_136_28)))) (zSn_nd (zSn_nd (zSn_lf zr_136_29) (zSn_nd (zSn_lf zr_136_32) (zSn_lf zr_136_33))) (zSn_nd (zSn_nd (zSn_lf zr_136_34) (zSn_lf zr_136_35)) (zSn_nd (zSn_lf zr_136_38) (zSn_lf zr_136_41))))))
theorem zr_137_0 : zSnd 137 0 (o_const 0 1) := zS_iconst (by decide +kernel) rfl (by decide)
theorem zr_137_1 : zSnd 137 1 (o_istore 3 2) := zS_istore_n (i := 3) (by decide +kernel) rfl rfl (by decide +kernel)
theorem zr_137_2 : zSnd 137 2 (o_iload 3 3) := zS_iload_n (i := 3) (by decide +kernel) rfl rfl
theorem zr_137_3 : zSnd 137 3 (o_aload 0 4) := zS_aload_n (i := 0) (by decide +kernel) rfl rfl
theorem zr_137_4 : zSnd 137 4 (o_getf 3 0 7) := zS_getf (idx := 12) (by decide +kernel) rfl (by decide) rfl (by decide) rfl zin_3 zq_132
theorem zr_137_7 : zSnd 137 7 (o_getf 4 4 10) := zS_getfN (idx := 63) (by decide +kernel) rfl (by decide) rfl (by decide) rfl zin_4 zq_149
theorem zr_137_10 : zSnd 137 10 (o_iload 1 11) := zS_iload_n (i := 1) (by decide +kernel) rfl rfl
theorem zr_137_11 : zSnd 137 11 (o_iald 12) := zS_iald (by decide +kernel) rfl
theorem zr_137_12 : zSnd 137 12 (o_cge 68 15) := zS_cge (by decide +kernel : decode (zmB 137) 12 = .ok (.if_icmp .ge 56, 3)) rfl (by decide)
theorem zr_137_15 : zSnd 137 15 (o_iload 1 16) := zS_iload_n (i := 1) (by decide +kernel) rfl rfl
theorem zr_137_16 : zSnd 137 16 (o_iload 3 17) := zS_iload_n (i := 3) (by decide +kernel) rfl rfl
theorem zr_137_17 : zSnd 137 17 (o_call 35 2 2 1 20) := zS_callSN (idx := 66) (by decide +kernel) rfl zq_150 zq_62 (by decide +kernel) zMk_35 (by decide +kernel) (by decide +kernel) (by decide +kernel)
theorem zr_137_20 : zSnd 137 20 (o_istore 4 22) := zS_istore (by decide +kernel) rfl (by decide +kernel)
theorem zr_137_22 : zSnd 137 22 (o_aload 0 23) := zS_aload_n (i := 0) (by decide +kernel) rfl rfl
theorem zr_137_23 : zSnd 137 23 (o_getf 3 0 26) := zS_getf (idx := 12) (by decide +kernel) rfl (by decide) rfl (by decide) rfl zin_3 zq_132
theorem zr_137_26 : zSnd 137 26 (o_getf 4 13 29) := zS_getfN (idx := 70) (by decide +kernel) rfl (by decide) rfl (by decide) rfl zin_4 zq_151
theorem zr_137_29 : zSnd 137 29 (o_iload 4 31) := zS_iload (by decide +kernel) rfl
theorem zr_137_31 : zSnd 137 31 (o_iald 32) := zS_iald (by decide +kernel) rfl
theorem zr_137_32 : zSnd 137 32 (o_istore 5 34) := zS_istore (by decide +kernel) rfl (by decide +kernel)
theorem zr_137_34 : zSnd 137 34 (o_iload 5 36) := zS_iload (by decide +kernel) rfl
theorem zr_137_36 : zSnd 137 36 (o_iload 2 37) := zS_iload_n (i := 2) (by decide +kernel) rfl rfl
theorem zr_137_37 : zSnd 137 37 (o_cge 54 40) := zS_cge (by decide +kernel : decode (zmB 137) 37 = .ok (.if_icmp .ge 17, 3)) rfl (by decide)
theorem zr_137_40 : zSnd 137 40 (o_aload 0 41) := zS_aload_n (i := 0) (by decide +kernel) rfl rfl
theorem zr_137_41 : zSnd 137 41 (o_getf 3 0 44) := zS_getf (idx := 12) (by decide +kernel) rfl (by decide) rfl (by decide) rfl zin_3 zq_132
theorem zr_137_44 : zSnd 137 44 (o_iload 4 46) := zS_iload (by decide +kernel) rfl
theorem zr_137_46 : zSnd 137 46 (o_iload 5 48) := zS_iload (by decide +kernel) rfl
theorem zr_137_48 : zSnd 137 48 (o_callv 4 164 3 4 1 51) := zS_callVN (n := 2) (idx := 73) (by decide +kernel) rfl rfl (by decide) rfl zq_152 zq_77 zq_78 (by decide +kernel) zMk_164 (by decide +kernel) (by decide +kernel) (by decide +kernel)
theorem zr_137_51 : zSnd 137 51 (o_ifeq 55 54) := zS_ifeq (by decide +kernel : decode (zmB 137) 51 = .ok (.ifCond .eq 4, 3)) rfl (by decide)
theorem zr_137_54 : zSnd 137 54 (o_ret) := zS_ret (by decide +kernel) (by decide +kernel)
theorem zr_137_55 : zSnd 137 55 (o_aload 0 56) := zS_aload_n (i := 0) (by decide +kernel) rfl rfl
theorem zr_137_56 : zSnd 137 56 (o_iload 1 57) := zS_iload_n (i := 1) (by decide +kernel) rfl rfl
theorem zr_137_57 : zSnd 137 57 (o_iload 5 59) := zS_iload (by decide +kernel) rfl
theorem zr_137_59 : zSnd 137 59 (o_callv 3 142 3 5 0 62) := zS_callV (n := 2) (idx := 77) (by decide +kernel) rfl rfl (by decide) rfl zq_153 zq_154 zq_155 (by decide +kernel) zMk_142 (by decide +kernel) (by decide +kernel) (by decide +kernel)
theorem zr_137_62 : zSnd 137 62 (o_iinc 3 1 65) := zS_iinc (by decide +kernel) rfl (by decide +kernel)
theorem zr_137_65 : zSnd 137 65 (o_goto 2) := zS_goto (by decide +kernel : decode (zmB 137) 65 = .ok (.goto (-63), 3)) (by decide)
theorem zr_137_68 : zSnd 137 68 (o_ret) := zS_ret (by decide +kernel) (by decide +kernel)
theorem zT_137 (pc : Nat) : zSnd 137 pc (zc_137 pc) := by
  unfold zc_137
  exact (zSn_nd (zSn_nd (zSn_nd (zSn_nd (zSn_nd (zSn_lf zr_137_0) (zSn_lf zr_137_1)) (zSn_nd (zSn_lf zr_137_2) (zSn_lf zr_137_3))) (zSn_nd (zSn_nd (zSn_lf zr_137_4) (zSn_lf zr_137_7)) (zSn_nd (zSn_lf zr_137_10) (zSn_nd (zSn_lf zr_137_11) (zSn_lf zr_137_12))))) (zSn_nd (zSn_nd (zSn_nd (zSn_lf zr_137_15) (zSn_lf zr_137_16)) (zSn_nd (zSn_lf zr_137_17) (zSn_lf zr_137_20))) (zSn_nd (zSn_nd (zSn_lf zr_137_22) (zSn_lf zr_137_23)) (zSn_nd (zSn_lf zr_137_26) (zSn_nd (zSn_lf zr_137_29) (zSn_lf zr_137_31)))))) (zSn_nd (zSn_nd (zSn_nd (zSn_nd (zSn_lf zr_137_32) (zSn_lf zr_137_34)) (zSn_nd (zSn_lf zr_137_36) (zSn_lf zr_137_37))) (zSn_nd (zSn_nd (zSn_lf zr_137_40) (zSn_lf zr_137_41)) (zSn_nd (zSn_lf zr_137_44) (zSn_nd (zSn_lf zr_137_46) (zSn_lf zr_137_48))))) (zSn_nd (zSn_nd (zSn_nd (zSn_lf zr_137_51) (zSn_lf zr_137_54)) (zSn_nd (zSn_lf zr_137_55) (zSn_lf zr_137_56))) (zSn_nd (zSn_nd (zSn_lf zr_137_57) (zSn_lf zr_137_59)) (zSn_nd (zSn_lf zr_137_62) (zSn_nd (zSn_lf zr_137_65) (zSn_lf zr_137_68)))))))
theorem zr_138_0 : zSnd 138 0 (o_const 0 1) := zS_iconst (by decide +kernel) rfl (by decide)
theorem zr_138_1 : zSnd 138 1 (o_istore 3 2) := zS_istore_n (i := 3) (by decide +kernel) rfl rfl (by decide +kernel)
theorem zr_138_2 : zSnd 138 2 (o_iload 3 3) := zS_iload_n (i := 3) (by decide +kernel) rfl rfl
theorem zr_138_3 : zSnd 138 3 (o_const 30 5) := zS_bipush (by decide +kernel) rfl (by decide) (by decide)
theorem zr_138_5 : zSnd 138 5 (o_cge 149 8) := zS_cge (by decide +kernel : decode (zmB 138) 5 = .ok (.if_icmp .ge 144, 3)) rfl (by decide)
theorem zr_138_8 : zSnd 138 8 (o_const (-1) 9) := zS_iconst (by decide +kernel) rfl (by decide)
theorem zr_138_9 : zSnd 138 9 (o_istore 4 11) := zS_istore (by decide +kernel) rfl (by decide +kernel)
theorem zr_138_11 : zSnd 138 11 (o_const 0 12) := zS_iconst (by decide +kernel) rfl (by decide)
theorem zr_138_12 : zSnd 138 12 (o_istore 5 14) := zS_istore (by decide +kernel) rfl (by decide +kernel)
theorem zr_138_14 : zSnd 138 14 (o_const 0 15) := zS_iconst (by decide +kernel) rfl (by decide)
theorem zr_138_15 : zSnd 138 15 (o_istore 6 17) := zS_istore (by decide +kernel) rfl (by decide +kernel)
theorem zr_138_17 : zSnd 138 17 (o_iload 6 19) := zS_iload (by decide +kernel) rfl
theorem zr_138_19 : zSnd 138 19 (o_aload 0 20) := zS_aload_n (i := 0) (by decide +kernel) rfl rfl
theorem zr_138_20 : zSnd 138 20 (o_getf 3 0 23) := zS_getf (idx := 12) (by decide +kernel) rfl (by decide) rfl (by decide) rfl zin_3 zq_132
theorem zr_138_23 : zSnd 138 23 (o_getf 4 1 26) := zS_getfN (idx := 56) (by decide +kernel) rfl (by decide) rfl (by decide) rfl zin_4 zq_143
theorem zr_138_26 : zSnd 138 26 (o_cge 128 29) := zS_cge (by decide +kernel : decode (zmB 138) 26 = .ok (.if_icmp .ge 102, 3)) rfl (by decide)
theorem zr_138_29 : zSnd 138 29 (o_aload 0 30) := zS_aload_n (i := 0) (by decide +kernel) rfl rfl
theorem zr_138_30 : zSnd 138 30 (o_getf 3 2 33) := zS_getf (idx := 22) (by decide +kernel) rfl (by decide) rfl (by decide) rfl zin_3 zq_147
theorem zr_138_33 : zSnd 138 33 (o_iload 6 35) := zS_iload (by decide +kernel) rfl
theorem zr_138_35 : zSnd 138 35 (o_iald 36) := zS_iald (by decide +kernel) rfl
theorem zr_138_36 : zSnd 138 36 (o_aload 0 37) := zS_aload_n (i := 0) (by decide +kernel) rfl rfl
theorem zr_138_37 : zSnd 138 37 (o_getf 3 0 40) := zS_getf (idx := 12) (by decide +kernel) rfl (by decide) rfl (by decide) rfl zin_3 zq_132
theorem zr_138_40 : zSnd 138 40 (o_getf 4 4 43) := zS_getfN (idx := 63) (by decide +kernel) rfl (by decide) rfl (by decide) rfl zin_4 zq_149
theorem zr_138_43 : zSnd 138 43 (o_iload 6 45) := zS_iload (by decide +kernel) rfl
theorem zr_138_45 : zSnd 138 45 (o_iald 46) := zS_iald (by decide +kernel) rfl
theorem zr_138_46 : zSnd 138 46 (o_cge 122 49) := zS_cge (by decide +kernel : decode (zmB 138) 46 = .ok (.if_icmp .ge 76, 3)) rfl (by decide)
theorem zr_138_49 : zSnd 138 49 (o_aload 0 50) := zS_aload_n (i := 0) (by decide +kernel) rfl rfl
theorem zr_138_50 : zSnd 138 50 (o_getf 3 0 53) := zS_getf (idx := 12) (by decide +kernel) rfl (by decide) rfl (by decide) rfl zin_3 zq_132
theorem zr_138_53 : zSnd 138 53 (o_iload 6 55) := zS_iload (by decide +kernel) rfl
theorem zr_138_55 : zSnd 138 55 (o_aload 0 56) := zS_aload_n (i := 0) (by decide +kernel) rfl rfl
theorem zr_138_56 : zSnd 138 56 (o_getf 3 2 59) := zS_getf (idx := 22) (by decide +kernel) rfl (by decide) rfl (by decide) rfl zin_3 zq_147
theorem zr_138_59 : zSnd 138 59 (o_iload 6 61) := zS_iload (by decide +kernel) rfl
theorem zr_138_61 : zSnd 138 61 (o_iald 62) := zS_iald (by decide +kernel) rfl
theorem zr_138_62 : zSnd 138 62 (o_call 35 2 2 1 65) := zS_callSN (idx := 66) (by decide +kernel) rfl zq_150 zq_62 (by decide +kernel) zMk_35 (by decide +kernel) (by decide +kernel) (by decide +kernel)
theorem zr_138_65 : zSnd 138 65 (o_aload 0 66) := zS_aload_n (i := 0) (by decide +kernel) rfl rfl
theorem zr_138_66 : zSnd 138 66 (o_iload 6 68) := zS_iload (by decide +kernel) rfl
theorem zr_138_68 : zSnd 138 68 (o_iload 1 69) := zS_iload_n (i := 1) (by decide +kernel) rfl rfl
theorem zr_138_69 : zSnd 138 69 (o_callv 3 140 3 5 1 72) := zS_callV (n := 2) (idx := 80) (by decide +kernel) rfl rfl (by decide) rfl zq_156 zq_157 zq_158 (by decide +kernel) zMk_140 (by decide +kernel) (by decide +kernel) (by decide +kernel)
theorem zr_138_72 : zSnd 138 72 (o_callv 4 163 3 7 1 75) := zS_callVN (n := 2) (idx := 83) (by decide +kernel) rfl rfl (by decide) rfl zq_159 zq_160 zq_161 (by decide +kernel) zMk_163 (by decide +kernel) (by decide +kernel) (by decide +kernel)
theorem zr_138_75 : zSnd 138 75 (o_istore 7 77) := zS_istore (by decide +kernel) rfl (by decide +kernel)
theorem zr_138_77 : zSnd 138 77 (o_iload 4 79) := zS_iload (by decide +kernel) rfl
theorem zr_138_79 : zSnd 138 79 (o_const (-1) 80) := zS_iconst (by decide +kernel) rfl (by decide)
theorem zr_138_80 : zSnd 138 80 (o_ceq 114 83) := zS_ceq (by decide +kernel : decode (zmB 138) 80 = .ok (.if_icmp .eq 34, 3)) rfl (by decide)
theorem zr_138_83 : zSnd 138 83 (o_iload 7 85) := zS_iload (by decide +kernel) rfl
theorem zr_138_85 : zSnd 138 85 (o_iload 5 87) := zS_iload (by decide +kernel) rfl
theorem zr_138_87 : zSnd 138 87 (o_clt 114 90) := zS_clt (by decide +kernel : decode (zmB 138) 87 = .ok (.if_icmp .lt 27, 3)) rfl (by decide)
theorem zr_138_90 : zSnd 138 90 (o_iload 7 92) := zS_iload (by decide +kernel) rfl
theorem zr_138_92 : zSnd 138 92 (o_iload 5 94) := zS_iload (by decide +kernel) rfl
theorem zr_138_94 : zSnd 138 94 (o_cne 122 97) := zS_cne (by decide +kernel : decode (zmB 138) 94 = .ok (.if_icmp .ne 28, 3)) rfl (by decide)
theorem zr_138_97 : zSnd 138 97 (o_aload 0 98) := zS_aload_n (i := 0) (by decide +kernel) rfl rfl
theorem zr_138_98 : zSnd 138 98 (o_iload 6 100) := zS_iload (by decide +kernel) rfl
theorem zr_138_100 : zSnd 138 100 (o_iload 2 101) := zS_iload_n (i := 2) (by decide +kernel) rfl rfl
theorem zr_138_101 : zSnd 138 101 (o_callv 3 143 3 3 1 104) := zS_callV (n := 2) (idx := 86) (by decide +kernel) rfl rfl (by decide) rfl zq_162 zq_163 zq_164 (by decide +kernel) zMk_143 (by decide +kernel) (by decide +kernel) (by decide +kernel)
theorem zr_138_104 : zSnd 138 104 (o_aload 0 105) := zS_aload_n (i := 0) (by decide +kernel) rfl rfl
theorem zr_138_105 : zSnd 138 105 (o_iload 4 107) := zS_iload (by decide +kernel) rfl
theorem zr_138_107 : zSnd 138 107 (o_iload 2 108) := zS_iload_n (i := 2) (by decide +kernel) rfl rfl
theorem zr_138_108 : zSnd 138 108 (o_callv 3 143 3 3 1 111) := zS_callV (n := 2) (idx := 86) (by decide +kernel) rfl rfl (by decide) rfl zq_162 zq_163 zq_164 (by decide +kernel) zMk_143 (by decide +kernel) (by decide +kernel) (by decide +kernel)
theorem zr_138_111 : zSnd 138 111 (o_cge 122 114) := zS_cge (by decide +kernel : decode (zmB 138) 111 = .ok (.if_icmp .ge 11, 3)) rfl (by decide)
theorem zr_138_114 : zSnd 138 114 (o_iload 6 116) := zS_iload (by decide +kernel) rfl
theorem zr_138_116 : zSnd 138 116 (o_istore 4 118) := zS_istore (by decide +kernel) rfl (by decide +kernel)
theorem zr_138_118 : zSnd 138 118 (o_iload 7 120) := zS_iload (by decide +kernel) rfl
theorem zr_138_120 : zSnd 138 120 (o_istore 5 122) := zS_istore (by decide +kernel) rfl (by decide +kernel)
theorem zr_138_122 : zSnd 138 122 (o_iinc 6 1 125) := zS_iinc (by decide +kernel) rfl (by decide +kernel)
theorem zr_138_125 : zSnd 138 125 (o_goto 17) := zS_goto (by decide +kernel : decode (zmB 138) 125 = .ok (.goto (-108), 3)) (by decide)
theorem zr_138_128 : zSnd 138 128 (o_iload 4 130) := zS_iload (by decide +kernel) rfl
theorem zr_138_130 : zSnd 138 130 (o_const (-1) 131) := zS_iconst (by decide +kernel) rfl (by decide)
theorem zr_138_131 : zSnd 138 131 (o_cne 135 134) := zS_cne (by decide +kernel : decode (zmB 138) 131 = .ok (.if_icmp .ne 4, 3)) rfl (by decide)
theorem zr_138_134 : zSnd 138 134 (o_ret) := zS_ret (by decide +kernel) (by decide +kernel)
theorem zr_138_135 : zSnd 138 135 (o_aload 0 136) := zS_aload_n (i := 0) (by decide +kernel) rfl rfl
theorem zr_138_136 : zSnd 138 136 (o_iload 4 138) := zS_iload (by decide +kernel) rfl
theorem zr_138_138 : zSnd 138 138 (o_iload 5 140) := zS_iload (by decide +kernel) rfl
theorem zr_138_140 : zSnd 138 140 (o_callv 3 142 3 5 0 143) := zS_callV (n := 2) (idx := 77) (by decide +kernel) rfl rfl (by decide) rfl zq_153 zq_154 zq_155 (by decide +kernel) zMk_142 (by decide +kernel) (by decide +kernel) (by decide +kernel)
theorem zr_138_143 : zSnd 138 143 (o_iinc 3 1 146) := zS_iinc (by decide +kernel) rfl (by decide +kernel)
theorem zr_138_146 : zSnd 138 146 (o_goto 2) := zS_goto (by decide +kernel : decode (zmB 138) 146 = .ok (.goto (-144), 3)) (by decide)
theorem zr_138_149 : zSnd 138 149 (o_ret) := zS_ret (by decide +kernel) (by decide +kernel)
theorem zT_138 (pc : Nat) : zSnd 138 pc (zc_138 pc) := by
  unfold zc_138
  exact (zSn_nd (zSn_nd (zSn_nd (zSn_nd (zSn_nd (zSn_nd (zSn_lf zr_138_0) (zSn_lf zr_138_1)) (zSn_nd (zSn_lf zr_138_2) (zSn_lf zr_138_3))) (zSn_nd (zSn_nd (zSn_lf zr_138_5) (zSn_lf zr_138_8)) (zSn_nd (zSn_lf zr_138_9) (zSn_nd (zSn_lf zr_138_11) (zSn_lf zr_138_12))))) (zSn_nd (zSn_nd (zSn_nd (zSn_lf zr_138_14) (zSn_lf zr_138_15)) (zSn_nd (zSn_lf zr_138_17) (zSn_lf zr_138_19))) (zSn_nd (zSn_nd (zSn_lf zr_138_20) (zSn_lf zr_138_23)) (zSn_nd (zSn_lf zr_138_26) (zSn_nd (zSn_lf zr_138_29) (zSn_lf zr_138_30)))))) (zSn_nd (zSn_nd (zSn_nd (zSn_nd (zSn_lf zr_138_33) (zSn_lf zr_138_35)) (zSn_nd (zSn_lf zr_138_36) (zSn_lf zr_138_37))) (zSn_nd (zSn_nd (zSn_lf zr_138_40) (zSn_lf zr_138_43)) (zSn_nd (zSn_lf zr_138_45) (zSn_nd (zSn_lf zr_138_46) (zSn_lf zr_138_49))))) (zSn_nd (zSn_nd (zSn_nd (zSn_lf zr_138_50) (zSn_lf zr_138_53)) (zSn_nd (zSn_lf zr_138_55) (zSn_nd (zSn_lf zr_138_56) (zSn_lf zr_138_59)))) (zSn_nd (zSn_nd (zSn_lf zr_138_61) (zSn_lf zr_138_62)) (zSn_nd (zSn_lf zr_138_65) (zSn_nd (zSn_lf zr_138_66) (zSn_lf zr_138_68))))))) (zSn_nd (zSn_nd (zSn_nd (zSn_nd (zSn_nd (zSn_lf zr_138_69) (zSn_lf zr_138_72)) (zSn_nd (zSn_lf zr_138_75) (zSn_lf zr_138_77))) (zSn_nd (zSn_nd (zSn_lf zr_138_79) (zSn_lf zr_138_80)) (zSn_nd (zSn_lf zr_138_83) (zSn_nd (zSn_lf zr_138_85) (zSn_lf zr_138_87))))) (zSn_nd (zSn_nd (zSn_nd (zSn_lf zr_138_90) (zSn_lf zr_138_92)) (zSn_nd (zSn_lf zr_138_94) (zSn_nd (zSn_lf zr_138_97) (zSn_lf zr_138_98)))) (zSn_nd (zSn_nd (zSn_lf zr_138_100) (zSn_lf zr_138_101)) (zSn_nd (zSn_lf zr_138_104) (zSn_nd (zSn_lf zr_138_105) (zSn_lf zr_138_107)))))) (zSn_nd (zSn_nd (zSn_nd (zSn_nd (zSn_lf zr_138_108) (zSn_lf zr_138_111)) (zSn_nd (zSn_lf zr_138_114) (zSn_lf zr_138_116))) (zSn_nd (zSn_nd (zSn_lf zr_138_118) (zSn_lf zr_138_120)) (zSn_nd (zSn_lf zr_138_122) (zSn_nd (zSn_lf zr_138_125) (zSn_lf zr_138_128))))) (zSn_nd (zSn_nd (zSn_nd (zSn_lf zr_138_130) (zSn_lf zr_138_131)) (zSn_nd (zSn_lf zr_138_134) (zSn_nd (zSn_lf zr_138_135) (zSn_lf zr_138_136)))) (zSn_nd (zSn_nd (zSn_lf zr_138_138) (zSn_lf zr_138_140)) (zSn_nd (zSn_lf zr_138_143) (zSn_nd (zSn_lf zr_138_146) (zSn_lf zr_138_149))))))))
theorem zr_139_0 : zSnd 139 0 (o_aload 0 1) := zS_aload_n (i := 0) (by decide +kernel) rfl rfl
theorem zr_139_1 : zSnd 139 1 (o_callv 3 136 1 2 0 4) := zS_callV (n := 0) (idx := 50) (by decide +kernel) rfl rfl (by decide) rfl zq_137 zq_138 zq_139 (by decide +kernel) zMk_136 (by decide +kernel) (by decide +kernel) (by decide +kernel)
theorem zr_139_4 : zSnd 139 4 (o_const 0 5) := zS_iconst (by decide +kernel) rfl (by decide)
theorem zr_139_5 : zSnd 139 5 (o_istore 1 6) := zS_istore_n (i := 1) (by decide +kernel) rfl rfl (by decide +kernel)
theorem zr_139_6 : zSnd 139 6 (o_iload 1 7) := zS_iload_n (i := 1) (by decide +kernel) rfl rfl
theorem zr_139_7 : zSnd 139 7 (o_const 30 9) := zS_bipush (by decide +kernel) rfl (by decide) (by decide)
theorem zr_139_9 : zSnd 139 9 (o_cge 140 12) := zS_cge (by decide +kernel : decode (zmB 139) 9 = .ok (.if_icmp .ge 131, 3)) rfl (by decide)
theorem zr_139_12 : zSnd 139 12 (o_const (-1) 13) := zS_iconst (by decide +kernel) rfl (by decide)
theorem zr_139_13 : zSnd 139 13 (o_istore 2 14) := zS_istore_n (i := 2) (by decide +kernel) rfl rfl (by decide +kernel)
theorem zr_139_14 : zSnd 139 14 (o_const 0 15) := zS_iconst (by decide +kernel) rfl (by decide)
theorem zr_139_15 : zSnd 139 15 (o_istore 3 16) := zS_istore_n (i := 3) (by decide +kernel) rfl rfl (by decide +kernel)
theorem zr_139_16 : zSnd 139 16 (o_const 0 17) := zS_iconst (by decide +kernel) rfl (by decide)
theorem zr_139_17 : zSnd 139 17 (o_istore 4 19) := zS_istore (by decide +kernel) rfl (by decide +kernel)
theorem zr_139_19 : zSnd 139 19 (o_iload 4 21) := zS_iload (by decide +kernel) rfl
theorem zr_139_21 : zSnd 139 21 (o_aload 0 22) := zS_aload_n (i := 0) (by decide +kernel) rfl rfl
theorem zr_139_22 : zSnd 139 22 (o_getf 3 0 25) := zS_getf (idx := 12) (by decide +kernel) rfl (by decide) rfl (by decide) rfl zin_3 zq_132
theorem zr_139_25 : zSnd 139 25 (o_getf 4 1 28) := zS_getfN (idx := 56) (by decide +kernel) rfl (by decide) rfl (by decide) rfl zin_4 zq_143
theorem zr_139_28 : zSnd 139 28 (o_cge 96 31) := zS_cge (by decide +kernel : decode (zmB 139) 28 = .ok (.if_icmp .ge 68, 3)) rfl (by decide)
theorem zr_139_31 : zSnd 139 31 (o_aload 0 32) := zS_aload_n (i := 0) (by decide +kernel) rfl rfl
theorem zr_139_32 : zSnd 139 32 (o_getf 3 2 35) := zS_getf (idx := 22) (by decide +kernel) rfl (by decide) rfl (by decide) rfl zin_3 zq_147
theorem zr_139_35 : zSnd 139 35 (o_iload 4 37) := zS_iload (by decide +kernel) rfl
theorem zr_139_37 : zSnd 139 37 (o_iald 38) := zS_iald (by decide +kernel) rfl
theorem zr_139_38 : zSnd 139 38 (o_aload 0 39) := zS_aload_n (i := 0) (by decide +kernel) rfl rfl
theorem zr_139_39 : zSnd 139 39 (o_getf 3 0 42) := zS_getf (idx := 12) (by decide +kernel) rfl (by decide) rfl (by decide) rfl zin_3 zq_132
theorem zr_139_42 : zSnd 139 42 (o_getf 4 4 45) := zS_getfN (idx := 63) (by decide +kernel) rfl (by decide) rfl (by decide) rfl zin_4 zq_149
theorem zr_139_45 : zSnd 139 45 (o_iload 4 47) := zS_iload (by decide +kernel) rfl
theorem zr_139_47 : zSnd 139 47 (o_iald 48) := zS_iald (by decide +kernel) rfl
theorem zr_139_48 : zSnd 139 48 (o_cge 90 51) := zS_cge (by decide +kernel : decode (zmB 139) 48 = .ok (.if_icmp .ge 42, 3)) rfl (by decide)
theorem zr_139_51 : zSnd 139 51 (o_aload 0 52) := zS_aload_n (i := 0) (by decide +kernel) rfl rfl
theorem zr_139_52 : zSnd 139 52 (o_getf 3 0 55) := zS_getf (idx := 12) (by decide +kernel) rfl (by decide) rfl (by decide) rfl zin_3 zq_132
theorem zr_139_55 : zSnd 139 55 (o_getf 4 12 58) := zS_getfN (idx := 89) (by decide +kernel) rfl (by decide) rfl (by decide) rfl zin_4 zq_165
theorem zr_139_58 : zSnd 139 58 (o_iload 4 60) := zS_iload (by decide +kernel) rfl
theorem zr_139_60 : zSnd 139 60 (o_aload 0 61) := zS_aload_n (i := 0) (by decide +kernel) rfl rfl
theorem zr_139_61 : zSnd 139 61 (o_getf 3 2 64) := zS_getf (idx := 22) (by decide +kernel) rfl (by decide) rfl (by decide) rfl zin_3 zq_147
theorem zr_139_64 : zSnd 139 64 (o_iload 4 66) := zS_iload (by decide +kernel) rfl
theorem zr_139_66 : zSnd 139 66 (o_iald 67) := zS_iald (by decide +kernel) rfl
theorem zr_139_67 : zSnd 139 67 (o_call 35 2 2 1 70) := zS_callSN (idx := 66) (by decide +kernel) rfl zq_150 zq_62 (by decide +kernel) zMk_35 (by decide +kernel) (by decide +kernel) (by decide +kernel)
theorem zr_139_70 : zSnd 139 70 (o_iald 71) := zS_iald (by decide +kernel) rfl
theorem zr_139_71 : zSnd 139 71 (o_istore 5 73) := zS_istore (by decide +kernel) rfl (by decide +kernel)
theorem zr_139_73 : zSnd 139 73 (o_iload 2 74) := zS_iload_n (i := 2) (by decide +kernel) rfl rfl
theorem zr_139_74 : zSnd 139 74 (o_const (-1) 75) := zS_iconst (by decide +kernel) rfl (by decide)
theorem zr_139_75 : zSnd 139 75 (o_ceq 84 78) := zS_ceq (by decide +kernel : decode (zmB 139) 75 = .ok (.if_icmp .eq 9, 3)) rfl (by decide)
theorem zr_139_78 : zSnd 139 78 (o_iload 5 80) := zS_iload (by decide +kernel) rfl
theorem zr_139_80 : zSnd 139 80 (o_iload 3 81) := zS_iload_n (i := 3) (by decide +kernel) rfl rfl
theorem zr_139_81 : zSnd 139 81 (o_cge 90 84) := zS_cge (by decide +kernel : decode (zmB 139) 81 = .ok (.if_icmp .ge 9, 3)) rfl (by decide)
theorem zr_139_84 : zSnd 139 84 (o_iload 4 86) := zS_iload (by decide +kernel) rfl
theorem zr_139_86 : zSnd 139 86 (o_istore 2 87) := zS_istore_n (i := 2) (by decide +kernel) rfl rfl (by decide +kernel)
theorem zr_139_87 : zSnd 139 87 (o_iload 5 89) := zS_iload (by decide +kernel) rfl
theorem zr_139_89 : zSnd 139 89 (o_istore 3 90) := zS_istore_n (i := 3) (by decide +kernel) rfl rfl (by decide +kernel)
theorem zr_139_90 : zSnd 139 90 (o_iinc 4 1 93) := zS_iinc (by decide +kernel) rfl (by decide +kernel)
theorem zr_139_93 : zSnd 139 93 (o_goto 19) := zS_goto (by decide +kernel : decode (zmB 139) 93 = .ok (.goto (-74), 3)) (by decide)
theorem zr_139_96 : zSnd 139 96 (o_iload 2 97) := zS_iload_n (i := 2) (by decide +kernel) rfl rfl
theorem zr_139_97 : zSnd 139 97 (o_const (-1) 98) := zS_iconst (by decide +kernel) rfl (by decide)
theorem zr_139_98 : zSnd 139 98 (o_cne 102 101) := zS_cne (by decide +kernel : decode (zmB 139) 98 = .ok (.if_icmp .ne 4, 3)) rfl (by decide)
theorem zr_139_101 : zSnd 139 101 (o_ret) := zS_ret (by decide +kernel) (by decide +kernel)
theorem zr_139_102 : zSnd 139 102 (o_iload 2 103) := zS_iload_n (i := 2) (by decide +kernel) rfl rfl
theorem zr_139_103 : zSnd 139 103 (o_aload 0 104) := zS_aload_n (i := 0) (by decide +kernel) rfl rfl
theorem zr_139_104 : zSnd 139 104 (o_getf 3 2 107) := zS_getf (idx := 22) (by decide +kernel) rfl (by decide) rfl (by decide) rfl zin_3 zq_147
theorem zr_139_107 : zSnd 139 107 (o_iload 2 108) := zS_iload_n (i := 2) (by decide +kernel) rfl rfl
theorem zr_139_108 : zSnd 139 108 (o_iald 109) := zS_iald (by decide +kernel) rfl
theorem zr_139_109 : zSnd 139 109 (o_call 35 2 2 1 112) := zS_callSN (idx := 66) (by decide +kernel) rfl zq_150 zq_62 (by decide +kernel) zMk_35 (by decide +kernel) (by decide +kernel) (by decide +kernel)
theorem zr_139_112 : zSnd 139 112 (o_istore 4 114) := zS_istore (by decide +kernel) rfl (by decide +kernel)
theorem zr_139_114 : zSnd 139 114 (o_aload 0 115) := zS_aload_n (i := 0) (by decide +kernel) rfl rfl
theorem zr_139_115 : zSnd 139 115 (o_iload 2 116) := zS_iload_n (i := 2) (by decide +kernel) rfl rfl
theorem zr_139_116 : zSnd 139 116 (o_aload 0 117) := zS_aload_n (i := 0) (by decide +kernel) rfl rfl
theorem zr_139_117 : zSnd 139 117 (o_getf 3 0 120) := zS_getf (idx := 12) (by decide +kernel) rfl (by decide) rfl (by decide) rfl zin_3 zq_132
theorem zr_139_120 : zSnd 139 120 (o_iload 4 122) := zS_iload (by decide +kernel) rfl
theorem zr_139_122 : zSnd 139 122 (o_aload 0 123) := zS_aload_n (i := 0) (by decide +kernel) rfl rfl
theorem zr_139_123 : zSnd 139 123 (o_iload 2 124) := zS_iload_n (i := 2) (by decide +kernel) rfl rfl
theorem zr_139_124 : zSnd 139 124 (o_iload 3 125) := zS_iload_n (i := 3) (by decide +kernel) rfl rfl
theorem zr_139_125 : zSnd 139 125 (o_callv 3 140 3 5 1 128) := zS_callV (n := 2) (idx := 80) (by decide +kernel) rfl rfl (by decide) rfl zq_156 zq_157 zq_158 (by decide +kernel) zMk_140 (by decide +kernel) (by decide +kernel) (by decide +kernel)
theorem zr_139_128 : zSnd 139 128 (o_callv 4 163 3 7 1 131) := zS_callVN (n := 2) (idx := 83) (by decide +kernel) rfl rfl (by decide) rfl zq_159 zq_160 zq_161 (by decide +kernel) zMk_163 (by decide +kernel) (by decide +kernel) (by decide +kernel)
theorem zr_139_131 : zSnd 139 131 (o_callv 3 142 3 5 0 134) := zS_callV (n := 2) (idx := 77) (by decide +kernel) rfl rfl (by decide) rfl zq_153 zq_154 zq_155 (by decide +kernel) zMk_142 (by decide +kernel) (by decide +kernel) (by decide +kernel)
theorem zr_139_134 : zSnd 139 134 (o_iinc 1 1 137) := zS_iinc (by decide +kernel) rfl (by decide +kernel)
theorem zr_139_137 : zSnd 139 137 (o_goto 6) := zS_goto (by decide +kernel : decode (zmB 139) 137 = .ok (.goto (-131), 3)) (by decide)
theorem zr_139_140 : zSnd 139 140 (o_ret) := zS_ret (by decide +kernel) (by decide +kernel)
theorem zT_139 (pc : Nat) : zSnd 139 pc (zc_139 pc) := by
  unfold zc_139
  exact (zSn_nd (zSn_nd (zSn_nd (zSn_nd (zSn_nd (zSn_nd (zSn_lf zr_139_0) (zSn_lf zr_139_1)) (zSn_nd (zSn_lf zr_139_4) (zSn_lf zr_139_5))) (zSn_nd (zSn_nd (zSn_lf zr_139_6) (zSn_lf zr_139_7)) (zSn_nd (zSn_lf zr_139_9) (zSn_nd (zSn_lf zr_139_12) (zSn_lf zr_139_13))))) (zSn_nd (zSn_nd (zSn_nd (zSn_lf zr_139_14) (zSn_lf zr_139_15)) (zSn_nd (zSn_lf zr_139_16) (zSn_nd (zSn_lf zr_139_17) (zSn_lf zr_139_19)))) (zSn_nd (zSn_nd (zSn_lf zr_139_21) (zSn_lf zr_139_22)) (zSn_nd (zSn_lf zr_139_25) (zSn_nd (zSn_lf zr_139_28) (zSn_lf zr_139_31)))))) (zSn_nd (zSn_nd (zSn_nd (zSn_nd (zSn_lf zr_139_32) (zSn_lf zr_139_35)) (zSn_nd (zSn_lf zr_139_37) (zSn_lf zr_139_38))) (zSn_nd (zSn_nd (zSn_lf zr_139_39) (zSn_lf zr_139_42)) (zSn_nd (zSn_lf zr_139_45) (zSn_nd (zSn_lf zr_139_47) (zSn_lf zr_139_48))))) (zSn_nd (zSn_nd (zSn_nd (zSn_lf zr_139_51) (zSn_lf zr_139_52)) (zSn_nd (zSn_lf zr_139_55) (zSn_nd (zSn_lf zr_139_58) (zSn_lf zr_139_60)))) (zSn_nd (zSn_nd (zSn_lf zr_139_61) (zSn_lf zr_139_64)) (zSn_nd (zSn_lf zr_139_66) (zSn_nd (zSn_lf zr_139_67) (zSn_lf zr_139_70))))))) (zSn_nd (zSn_nd (zSn_nd (zSn_nd (zSn_nd (zSn_lf zr_139_71) (zSn_lf zr_139_73)) (zSn_nd (zSn_lf zr_139_74) (zSn_lf zr_139_75))) (zSn_nd (zSn_nd (zSn_lf zr_139_78) (zSn_lf zr_139_80)) (zSn_nd (zSn_lf zr_139_81) (zSn_nd (zSn_lf zr_139_84) (zSn_lf zr_139_86))))) (zSn_nd (zSn_nd (zSn_nd (zSn_lf zr_139_87) (zSn_lf zr_139_89)) (zSn_nd (zSn_lf zr_139_90) (zSn_nd (zSn_lf zr_139_93) (zSn_lf zr_139_96)))) (zSn_nd (zSn_nd (zSn_lf zr_139_97) (zSn_lf zr_139_98)) (zSn_nd (zSn_lf zr_139_101) (zSn_nd (zSn_lf zr_139_102) (zSn_lf zr_139_103)))))) (zSn_nd (zSn_nd (zSn_nd (zSn_nd (zSn_lf zr_139_104) (zSn_lf zr_139_107)) (zSn_nd (zSn_lf zr_139_108) (zSn_lf zr_139_109))) (zSn_nd (zSn_nd (zSn_lf zr_139_112) (zSn_lf zr_139_114)) (zSn_nd (zSn_lf zr_139_115) (zSn_nd (zSn_lf zr_139_116) (zSn_lf zr_139_117))))) (zSn_nd (zSn_nd (zSn_nd (zSn_lf zr_139_120) (zSn_lf zr_139_122)) (zSn_nd (zSn_lf zr_139_123) (zSn_nd (zSn_lf zr_139_124) (zSn_lf zr_139_125)))) (zSn_nd (zSn_nd (zSn_lf zr_139_128) (zSn_lf zr_139_131)) (zSn_nd (zSn_lf zr_139_134) (zSn_nd (zSn_lf zr_139_137) (zSn_lf zr_139_140))))))))
theorem zr_140_0 : zSnd 140 0 (o_iload 1 1) := zS_iload_n (i := 1) (by decide +kernel) rfl rfl
theorem zr_140_1 : zSnd 140 1 (o_aload 0 2) := zS_aload_n (i := 0) (by decide +kernel) rfl rfl
theorem zr_140_2 : zSnd 140 2 (o_getf 3 2 5) := zS_getf (idx := 22) (by decide +kernel) rfl (by decide) rfl (by decide) rfl zin_3 zq_147
theorem zr_140_5 : zSnd 140 5 (o_iload 1 6) := zS_iload_n (i := 1) (by decide +kernel) rfl rfl
theorem zr_140_6 : zSnd 140 6 (o_iald 7) := zS_iald (by decide +kernel) rfl
theorem zr_140_7 : zSnd 140 7 (o_call 35 2 2 1 10) := zS_callSN (idx := 66) (by decide +kernel) rfl zq_150 zq_62 (by decide +kernel) zMk_35 (by decide +kernel) (by decide +kernel) (by decide +kernel)
theorem zr_140_10 : zSnd 140 10 (o_istore 3 11) := zS_istore_n (i := 3) (by decide +kernel) rfl rfl (by decide +kernel)
theorem zr_140_11 : zSnd 140 11 (o_iload 2 12) := zS_iload_n (i := 2) (by decide +kernel) rfl rfl
theorem zr_140_12 : zSnd 140 12 (o_aload 0 13) := zS_aload_n (i := 0) (by decide +kernel) rfl rfl
theorem zr_140_13 : zSnd 140 13 (o_aload 0 14) := zS_aload_n (i := 0) (by decide +kernel) rfl rfl
theorem zr_140_14 : zSnd 140 14 (o_getf 3 0 17) := zS_getf (idx := 12) (by decide +kernel) rfl (by decide) rfl (by decide) rfl zin_3 zq_132
theorem zr_140_17 : zSnd 140 17 (o_getf 4 5 20) := zS_getfN (idx := 92) (by decide +kernel) rfl (by decide) rfl (by decide) rfl zin_4 zq_166
theorem zr_140_20 : zSnd 140 20 (o_iload 3 21) := zS_iload_n (i := 3) (by decide +kernel) rfl rfl
theorem zr_140_21 : zSnd 140 21 (o_iald 22) := zS_iald (by decide +kernel) rfl
theorem zr_140_22 : zSnd 140 22 (o_callv 3 141 2 2 1 25) := zS_callV (n := 1) (idx := 95) (by decide +kernel) rfl rfl (by decide) rfl zq_167 zq_168 zq_169 (by decide +kernel) zMk_141 (by decide +kernel) (by decide +kernel) (by decide +kernel)
theorem zr_140_25 : zSnd 140 25 (o_max 28) := zS_max (idx := 99) (by decide +kernel) rfl zq_170 zq_171 zq_106 zq_172 (by decide +kernel)
theorem zr_140_28 : zSnd 140 28 (o_istore 4 30) := zS_istore (by decide +kernel) rfl (by decide +kernel)
theorem zr_140_30 : zSnd 140 30 (o_aload 0 31) := zS_aload_n (i := 0) (by decide +kernel) rfl rfl
theorem zr_140_31 : zSnd 140 31 (o_getf 3 2 34) := zS_getf (idx := 22) (by decide +kernel) rfl (by decide) rfl (by decide) rfl zin_3 zq_147
theorem zr_140_34 : zSnd 140 34 (o_iload 1 35) := zS_iload_n (i := 1) (by decide +kernel) rfl rfl
theorem zr_140_35 : zSnd 140 35 (o_iald 36) := zS_iald (by decide +kernel) rfl
theorem zr_140_36 : zSnd 140 36 (o_ifle 66 39) := zS_ifle (by decide +kernel : decode (zmB 140) 36 = .ok (.ifCond .le 30, 3)) rfl (by decide)
theorem zr_140_39 : zSnd 140 39 (o_iload 4 41) := zS_iload (by decide +kernel) rfl
theorem zr_140_41 : zSnd 140 41 (o_aload 0 42) := zS_aload_n (i := 0) (by decide +kernel) rfl rfl
theorem zr_140_42 : zSnd 140 42 (o_getf 3 1 45) := zS_getf (idx := 18) (by decide +kernel) rfl (by decide) rfl (by decide) rfl zin_3 zq_127
theorem zr_140_45 : zSnd 140 45 (o_iload 3 46) := zS_iload_n (i := 3) (by decide +kernel) rfl rfl
theorem zr_140_46 : zSnd 140 46 (o_const 1 47) := zS_iconst (by decide +kernel) rfl (by decide)
theorem zr_140_47 : zSnd 140 47 (o_isub 48) := zS_isub (by decide +kernel) rfl
theorem zr_140_48 : zSnd 140 48 (o_iald 49) := zS_iald (by decide +kernel) rfl
theorem zr_140_49 : zSnd 140 49 (o_aload 0 50) := zS_aload_n (i := 0) (by decide +kernel) rfl rfl
theorem zr_140_50 : zSnd 140 50 (o_getf 3 0 53) := zS_getf (idx := 12) (by decide +kernel) rfl (by decide) rfl (by decide) rfl zin_3 zq_132
theorem zr_140_53 : zSnd 140 53 (o_getf 4 6 56) := zS_getfN (idx := 104) (by decide +kernel) rfl (by decide) rfl (by decide) rfl zin_4 zq_173
theorem zr_140_56 : zSnd 140 56 (o_iload 3 57) := zS_iload_n (i := 3) (by decide +kernel) rfl rfl
theorem zr_140_57 : zSnd 140 57 (o_const 1 58) := zS_iconst (by decide +kernel) rfl (by decide)
theorem zr_140_58 : zSnd 140 58 (o_isub 59) := zS_isub (by decide +kernel) rfl
theorem zr_140_59 : zSnd 140 59 (o_iald 60) := zS_iald (by decide +kernel) rfl
theorem zr_140_60 : zSnd 140 60 (o_iadd 61) := zS_iadd (by decide +kernel) rfl
theorem zr_140_61 : zSnd 140 61 (o_max 64) := zS_max (idx := 99) (by decide +kernel) rfl zq_170 zq_171 zq_106 zq_172 (by decide +kernel)
theorem zr_140_64 : zSnd 140 64 (o_istore 4 66) := zS_istore (by decide +kernel) rfl (by decide +kernel)
theorem zr_140_66 : zSnd 140 66 (o_iload 4 68) := zS_iload (by decide +kernel) rfl
theorem zr_140_68 : zSnd 140 68 (o_iret) := zS_iret (by decide +kernel) (by decide +kernel)
theorem zT_140 (pc : Nat) : zSnd 140 pc (zc_140 pc) := by
  unfold zc_140
  exact (zSn_nd (zSn_nd (zSn_nd (zSn_nd (zSn_nd (zSn_lf zr_140_0) (zSn_lf zr_140_1)) (zSn_nd (zSn_lf zr_140_2) (zSn_nd (zSn_lf zr_140_5) (zSn_lf zr_140_6)))) (zSn_nd (zSn_nd (zSn_lf zr_140_7) (zSn_lf zr_140_10)) (zSn_nd (zSn_lf zr_140_11) (zSn_nd (zSn_lf zr_140_12) (zSn_lf zr_140_13))))) (zSn_nd (zSn_nd (zSn_nd (zSn_lf zr_140_14) (zSn_lf zr_140_17)) (zSn_nd (zSn_lf zr_140_20) (zSn_nd (zSn_lf zr_140_21) (zSn_lf zr_140_22)))) (zSn_nd (zSn_nd (zSn_lf zr_140_25) (zSn_lf zr_140_28)) (zSn_nd (zSn_lf zr_140_30) (zSn_nd (zSn_lf zr_140_31) (zSn_lf zr_140_34)))))) (zSn_nd (zSn_nd (zSn_nd (zSn_nd (zSn_lf zr_140_35) (zSn_lf zr_140_36)) (zSn_nd (zSn_lf zr_140_39) (zSn_nd (zSn_lf zr_140_41) (zSn_lf zr_140_42)))) (zSn_nd (zSn_nd (zSn_lf zr_140_45) (zSn_lf zr_140_46)) (zSn_nd (zSn_lf zr_140_47) (zSn_nd (zSn_lf zr_140_48) (zSn_lf zr_140_49))))) (zSn_nd (zSn_nd (zSn_nd (zSn_lf zr_140_50) (zSn_lf zr_140_53)) (zSn_nd (zSn_lf zr_140_56) (zSn_nd (zSn_lf zr_140_57) (zSn_lf zr_140_58)))) (zSn_nd (zSn_nd (zSn_lf zr_140_59) (zSn_nd (zSn_lf zr_140_60) (zSn_lf zr_140_61))) (zSn_nd (zSn_lf zr_140_64) (zSn_nd (zSn_lf zr_140_66) (zSn_lf zr_140_68)))))))
theorem zr_141_0 : zSnd 141 0 (o_iload 1 1) := zS_iload_n (i := 1) (by decide +kernel) rfl rfl
theorem zr_141_1 : zSnd 141 1 (o_iflt 18 4) := zS_iflt (by decide +kernel : decode (zmB 141) 1 = .ok (.ifCond .lt 17, 3)) rfl (by decide)
theorem zr_141_4 : zSnd 141 4 (o_iload 1 5) := zS_iload_n (i := 1) (by decide +kernel) rfl rfl
theorem zr_141_5 : zSnd 141 5 (o_const 5 6) := zS_iconst (by decide +kernel) rfl (by decide)
theorem zr_141_6 : zSnd 141 6 (o_cge 18 9) := zS_cge (by decide +kernel : decode (zmB 141) 6 = .ok (.if_icmp .ge 12, 3)) rfl (by decide)
theorem zr_141_9 : zSnd 141 9 (o_aload 0 10) := zS_aload_n (i := 0) (by decide +kernel) rfl rfl
theorem zr_141_10 : zSnd 141 10 (o_getf 3 3 13) := zS_getf (idx := 25) (by decide +kernel) rfl (by decide) rfl (by decide) rfl zin_3 zq_148
theorem zr_141_13 : zSnd 141 13 (o_iload 1 14) := zS_iload_n (i := 1) (by decide +kernel) rfl rfl
theorem zr_141_14 : zSnd 141 14 (o_iald 15) := zS_iald (by decide +kernel) rfl
theorem zr_141_15 : zSnd 141 15 (o_goto 19) := zS_goto (by decide +kernel : decode (zmB 141) 15 = .ok (.goto 4, 3)) (by decide)
theorem zr_141_18 : zSnd 141 18 (o_const 0 19) := zS_iconst (by decide +kernel) rfl (by decide)
theorem zr_141_19 : zSnd 141 19 (o_iret) := zS_iret (by decide +kernel) (by decide +kernel)
theorem zT_141 (pc : Nat) : zSnd 141 pc (zc_141 pc) := by
  unfold zc_141
  exact (zSn_nd (zSn_nd (zSn_nd (zSn_lf zr_141_0) (zSn_nd (zSn_lf zr_141_1) (zSn_lf zr_141_4))) (zSn_nd (zSn_lf zr_141_5) (zSn_nd (zSn_lf zr_141_6) (zSn_lf zr_141_9)))) (zSn_nd (zSn_nd (zSn_lf zr_141_10) (zSn_nd (zSn_lf zr_141_13) (zSn_lf zr_141_14))) (zSn_nd (zSn_lf zr_141_15) (zSn_nd (zSn_lf zr_141_18) (zSn_lf zr_141_19)))))
theorem zr_142_0 : zSnd 142 0 (o_iload 1 1) := zS_iload_n (i := 1) (by decide +kernel) rfl rfl
theorem zr_142_1 : zSnd 142 1 (o_aload 0 2) := zS_aload_n (i := 0) (by decide +kernel) rfl rfl
theorem zr_142_2 : zSnd 142 2 (o_getf 3 2 5) := zS_getf (idx := 22) (by decide +kernel) rfl (by decide) rfl (by decide) rfl zin_3 zq_147
theorem zr_142_5 : zSnd 142 5 (o_iload 1 6) := zS_iload_n (i := 1) (by decide +kernel) rfl rfl
theorem zr_142_6 : zSnd 142 6 (o_iald 7) := zS_iald (by decide +kernel) rfl
theorem zr_142_7 : zSnd 142 7 (o_call 35 2 2 1 10) := zS_callSN (idx := 66) (by decide +kernel) rfl zq_150 zq_62 (by decide +kernel) zMk_35 (by decide +kernel) (by decide +kernel) (by decide +kernel)
theorem zr_142_10 : zSnd 142 10 (o_istore 3 11) := zS_istore_n (i := 3) (by decide +kernel) rfl rfl (by decide +kernel)
theorem zr_142_11 : zSnd 142 11 (o_aload 0 12) := zS_aload_n (i := 0) (by decide +kernel) rfl rfl
theorem zr_142_12 : zSnd 142 12 (o_getf 3 0 15) := zS_getf (idx := 12) (by decide +kernel) rfl (by decide) rfl (by decide) rfl zin_3 zq_132
theorem zr_142_15 : zSnd 142 15 (o_getf 4 5 18) := zS_getfN (idx := 92) (by decide +kernel) rfl (by decide) rfl (by decide) rfl zin_4 zq_166
theorem zr_142_18 : zSnd 142 18 (o_iload 3 19) := zS_iload_n (i := 3) (by decide +kernel) rfl rfl
theorem zr_142_19 : zSnd 142 19 (o_iald 20) := zS_iald (by decide +kernel) rfl
theorem zr_142_20 : zSnd 142 20 (o_istore 4 22) := zS_istore (by decide +kernel) rfl (by decide +kernel)
theorem zr_142_22 : zSnd 142 22 (o_aload 0 23) := zS_aload_n (i := 0) (by decide +kernel) rfl rfl
theorem zr_142_23 : zSnd 142 23 (o_getf 3 1 26) := zS_getf (idx := 18) (by decide +kernel) rfl (by decide) rfl (by decide) rfl zin_3 zq_127
theorem zr_142_26 : zSnd 142 26 (o_iload 3 27) := zS_iload_n (i := 3) (by decide +kernel) rfl rfl
theorem zr_142_27 : zSnd 142 27 (o_iload 2 28) := zS_iload_n (i := 2) (by decide +kernel) rfl rfl
theorem zr_142_28 : zSnd 142 28 (o_iast 29) := zS_iast (by decide +kernel) rfl
theorem zr_142_29 : zSnd 142 29 (o_iload 4 31) := zS_iload (by decide +kernel) rfl
theorem zr_142_31 : zSnd 142 31 (o_iflt 68 34) := zS_iflt (by decide +kernel : decode (zmB 142) 31 = .ok (.ifCond .lt 37, 3)) rfl (by decide)
theorem zr_142_34 : zSnd 142 34 (o_iload 4 36) := zS_iload (by decide +kernel) rfl
theorem zr_142_36 : zSnd 142 36 (o_const 5 37) := zS_iconst (by decide +kernel) rfl (by decide)
theorem zr_142_37 : zSnd 142 37 (o_cge 68 40) := zS_cge (by decide +kernel : decode (zmB 142) 37 = .ok (.if_icmp .ge 31, 3)) rfl (by decide)
theorem zr_142_40 : zSnd 142 40 (o_aload 0 41) := zS_aload_n (i := 0) (by decide +kernel) rfl rfl
theorem zr_142_41 : zSnd 142 41 (o_getf 3 3 44) := zS_getf (idx := 25) (by decide +kernel) rfl (by decide) rfl (by decide) rfl zin_3 zq_148
theorem zr_142_44 : zSnd 142 44 (o_iload 4 46) := zS_iload (by decide +kernel) rfl
theorem zr_142_46 : zSnd 142 46 (o_aload 0 47) := zS_aload_n (i := 0) (by decide +kernel) rfl rfl
theorem zr_142_47 : zSnd 142 47 (o_getf 3 3 50) := zS_getf (idx := 25) (by decide +kernel) rfl (by decide) rfl (by decide) rfl zin_3 zq_148
theorem zr_142_50 : zSnd 142 50 (o_iload 4 52) := zS_iload (by decide +kernel) rfl
theorem zr_142_52 : zSnd 142 52 (o_iald 53) := zS_iald (by decide +kernel) rfl
theorem zr_142_53 : zSnd 142 53 (o_iload 2 54) := zS_iload_n (i := 2) (by decide +kernel) rfl rfl
theorem zr_142_54 : zSnd 142 54 (o_aload 0 55) := zS_aload_n (i := 0) (by decide +kernel) rfl rfl
theorem zr_142_55 : zSnd 142 55 (o_getf 3 0 58) := zS_getf (idx := 12) (by decide +kernel) rfl (by decide) rfl (by decide) rfl zin_3 zq_132
theorem zr_142_58 : zSnd 142 58 (o_getf 4 6 61) := zS_getfN (idx := 104) (by decide +kernel) rfl (by decide) rfl (by decide) rfl zin_4 zq_173
theorem zr_142_61 : zSnd 142 61 (o_iload 3 62) := zS_iload_n (i := 3) (by decide +kernel) rfl rfl
theorem zr_142_62 : zSnd 142 62 (o_iald 63) := zS_iald (by decide +kernel) rfl
theorem zr_142_63 : zSnd 142 63 (o_iadd 64) := zS_iadd (by decide +kernel) rfl
theorem zr_142_64 : zSnd 142 64 (o_max 67) := zS_max (idx := 99) (by decide +kernel) rfl zq_170 zq_171 zq_106 zq_172 (by decide +kernel)
theorem zr_142_67 : zSnd 142 67 (o_iast 68) := zS_iast (by decide +kernel) rfl
theorem zr_142_68 : zSnd 142 68 (o_aload 0 69) := zS_aload_n (i := 0) (by decide +kernel) rfl rfl
theorem zr_142_69 : zSnd 142 69 (o_getf 3 2 72) := zS_getf (idx := 22) (by decide +kernel) rfl (by decide) rfl (by decide) rfl zin_3 zq_147
theorem zr_142_72 : zSnd 142 72 (o_iload 1 73) := zS_iload_n (i := 1) (by decide +kernel) rfl rfl
theorem zr_142_73 : zSnd 142 73 (o_dup2 74) := zS_dup2 (by decide +kernel) rfl
theorem zr_142_74 : zSnd 142 74 (o_iald 75) := zS_iald (by decide +kernel) rfl
theorem zr_142_75 : zSnd 142 75 (o_const 1 76) := zS_iconst (by decide +kernel) rfl (by decide)
theorem zr_142_76 : zSnd 142 76 (o_iadd 77) := zS_iadd (by decide +kernel) rfl
theorem zr_142_77 : zSnd 142 77 (o_iast 78) := zS_iast (by decide +kernel) rfl
theorem zr_142_78 : zSnd 142 78 (o_ret) := zS_ret (by decide +kernel) (by decide +kernel)
theorem zT_142 (pc : Nat) : zSnd 142 pc (zc_142 pc) := by
  unfold zc_142
  exact (zSn_nd (zSn_nd (zSn_nd (zSn_nd (zSn_nd (zSn_lf zr_142_0) (zSn_nd (zSn_lf zr_142_1) (zSn_lf zr_142_2))) (zSn_nd (zSn_lf zr_142_5) (zSn_nd (zSn_lf zr_142_6) (zSn_lf zr_142_7)))) (zSn_nd (zSn_nd (zSn_lf zr_142_10) (zSn_nd (zSn_lf zr_142_11) (zSn_lf zr_142_12))) (zSn_nd (zSn_lf zr_142_15) (zSn_nd (zSn_lf zr_142_18) (zSn_lf zr_142_19))))) (zSn_nd (zSn_nd (zSn_nd (zSn_lf zr_142_20) (zSn_nd (zSn_lf zr_142_22) (zSn_lf zr_142_23))) (zSn_nd (zSn_lf zr_142_26) (zSn_nd (zSn_lf zr_142_27) (zSn_lf zr_142_28)))) (zSn_nd (zSn_nd (zSn_lf zr_142_29) (zSn_nd (zSn_lf zr_142_31) (zSn_lf zr_142_34))) (zSn_nd (zSn_lf zr_142_36) (zSn_nd (zSn_lf zr_142_37) (zSn_lf zr_142_40)))))) (zSn_nd (zSn_nd (zSn_nd (zSn_nd (zSn_lf zr_142_41) (zSn_nd (zSn_lf zr_142_44) (zSn_lf zr_142_46))) (zSn_nd (zSn_lf zr_142_47) (zSn_nd (zSn_lf zr_142_50) (zSn_lf zr_142_52)))) (zSn_nd (zSn_nd (zSn_lf zr_142_53) (zSn_nd (zSn_lf zr_142_54) (zSn_lf zr_142_55))) (zSn_nd (zSn_lf zr_142_58) (zSn_nd (zSn_lf zr_142_61) (zSn_lf zr_142_62))))) (zSn_nd (zSn_nd (zSn_nd (zSn_lf zr_142_63) (zSn_nd (zSn_lf zr_142_64) (zSn_lf zr_142_67))) (zSn_nd (zSn_lf zr_142_68) (zSn_nd (zSn_lf zr_142_69) (zSn_lf zr_142_72)))) (zSn_nd (zSn_nd (zSn_lf zr_142_73) (zSn_nd (zSn_lf zr_142_74) (zSn_lf zr_142_75))) (zSn_nd (zSn_lf zr_142_76) (zSn_nd (zSn_lf zr_142_77) (zSn_lf zr_142_78)))))))
theorem zr_143_0 : zSnd 143 0 (o_iload 2 1) := zS_iload_n (i := 2) (by decide +kernel) rfl rfl
theorem zr_143_1 : zSnd 143 1 (o_sw [(0, 28), (1, 47), (2, 57)] 68) := zS_tsw (n := 3) (by decide +kernel : decode (zmB 143) 1 = .ok (.tableswitch 67 0 2 #[27, 46, 56], 27)) (by decide) (by decide +kernel) (by intro x hx; simp only [zsw]; (repeat' split) <;> omega) (by decide)
theorem zr_143_28 : zSnd 143 28 (o_aload 0 29) := zS_aload_n (i := 0) (by decide +kernel) rfl rfl
theorem zr_143_29 : zSnd 143 29 (o_getf 3 0 32) := zS_getf (idx := 12) (by decide +kernel) rfl (by decide) rfl (by decide) rfl zin_3 zq_132
theorem zr_143_32 : zSnd 143 32 (o_getf 4 6 35) := zS_getfN (idx := 104) (by decide +kernel) rfl (by decide) rfl (by decide) rfl zin_4 zq_173
theorem zr_143_35 : zSnd 143 35 (o_iload 1 36) := zS_iload_n (i := 1) (by decide +kernel) rfl rfl
theorem zr_143_36 : zSnd 143 36 (o_aload 0 37) := zS_aload_n (i := 0) (by decide +kernel) rfl rfl
theorem zr_143_37 : zSnd 143 37 (o_getf 3 2 40) := zS_getf (idx := 22) (by decide +kernel) rfl (by decide) rfl (by decide) rfl zin_3 zq_147
theorem zr_143_40 : zSnd 143 40 (o_iload 1 41) := zS_iload_n (i := 1) (by decide +kernel) rfl rfl
theorem zr_143_41 : zSnd 143 41 (o_iald 42) := zS_iald (by decide +kernel) rfl
theorem zr_143_42 : zSnd 143 42 (o_call 35 2 2 1 45) := zS_callSN (idx := 66) (by decide +kernel) rfl zq_150 zq_62 (by decide +kernel) zMk_35 (by decide +kernel) (by decide +kernel) (by decide +kernel)
theorem zr_143_45 : zSnd 143 45 (o_iald 46) := zS_iald (by decide +kernel) rfl
theorem zr_143_46 : zSnd 143 46 (o_iret) := zS_iret (by decide +kernel) (by decide +kernel)
theorem zr_143_47 : zSnd 143 47 (o_aload 0 48) := zS_aload_n (i := 0) (by decide +kernel) rfl rfl
theorem zr_143_48 : zSnd 143 48 (o_getf 3 0 51) := zS_getf (idx := 12) (by decide +kernel) rfl (by decide) rfl (by decide) rfl zin_3 zq_132
theorem zr_143_51 : zSnd 143 51 (o_getf 4 3 54) := zS_getfN (idx := 107) (by decide +kernel) rfl (by decide) rfl (by decide) rfl zin_4 zq_174
theorem zr_143_54 : zSnd 143 54 (o_iload 1 55) := zS_iload_n (i := 1) (by decide +kernel) rfl rfl
theorem zr_143_55 : zSnd 143 55 (o_iald 56) := zS_iald (by decide +kernel) rfl
theorem zr_143_56 : zSnd 143 56 (o_iret) := zS_iret (by decide +kernel) (by decide +kernel)
theorem zr_143_57 : zSnd 143 57 (o_aload 0 58) := zS_aload_n (i := 0) (by decide +kernel) rfl rfl
theorem zr_143_58 : zSnd 143 58 (o_getf 3 0 61) := zS_getf (idx := 12) (by decide +kernel) rfl (by decide) rfl (by decide) rfl zin_3 zq_132
theorem zr_143_61 : zSnd 143 61 (o_getf 4 2 64) := zS_getfN (idx := 110) (by decide +kernel) rfl (by decide) rfl (by decide) rfl zin_4 zq_175
theorem zr_143_64 : zSnd 143 64 (o_iload 1 65) := zS_iload_n (i := 1) (by decide +kernel) rfl rfl
theorem zr_143_65 : zSnd 143 65 (o_iald 66) := zS_iald (by decide +kernel) rfl
theorem zr_143_66 : zSnd 143 66 (o_ineg 67) := zS_ineg (by decide +kernel) rfl
theorem zr_143_67 : zSnd 143 67 (o_iret) := zS_iret (by decide +kernel) (by decide +kernel)
theorem zr_143_68 : zSnd 143 68 (o_aload 0 69) := zS_aload_n (i := 0) (by decide +kernel) rfl rfl
theorem zr_143_69 : zSnd 143 69 (o_getf 3 0 72) := zS_getf (idx := 12) (by decide +kernel) rfl (by decide) rfl (by decide) rfl zin_3 zq_132
theorem zr_143_72 : zSnd 143 72 (o_getf 4 4 75) := zS_getfN (idx := 63) (by decide +kernel) rfl (by decide) rfl (by decide) rfl zin_4 zq_149
theorem zr_143_75 : zSnd 143 75 (o_iload 1 76) := zS_iload_n (i := 1) (by decide +kernel) rfl rfl
theorem zr_143_76 : zSnd 143 76 (o_iald 77) := zS_iald (by decide +kernel) rfl
theorem zr_143_77 : zSnd 143 77 (o_aload 0 78) := zS_aload_n (i := 0) (by decide +kernel) rfl rfl
theorem zr_143_78 : zSnd 143 78 (o_getf 3 2 81) := zS_getf (idx := 22) (by decide +kernel) rfl (by decide) rfl (by decide) rfl zin_3 zq_147
theorem zr_143_81 : zSnd 143 81 (o_iload 1 82) := zS_iload_n (i := 1) (by decide +kernel) rfl rfl
theorem zr_143_82 : zSnd 143 82 (o_iald 83) := zS_iald (by decide +kernel) rfl
theorem zr_143_83 : zSnd 143 83 (o_isub 84) := zS_isub (by decide +kernel) rfl
theorem zr_143_84 : zSnd 143 84 (o_iret) := zS_iret (by decide +kernel) (by decide +kernel)
theorem zT_143 (pc : Nat) : zSnd 143 pc (zc_143 pc) := by
  unfold zc_143
  exact (zSn_nd (zSn_nd (zSn_nd (zSn_nd (zSn_nd (zSn_lf zr_143_0) (zSn_lf zr_143_1)) (zSn_nd (zSn_lf zr_143_28) (zSn_lf zr_143_29))) (zSn_nd (zSn_nd (zSn_lf zr_143_32) (zSn_lf zr_143_35)) (zSn_nd (zSn_lf zr_143_36) (zSn_nd (zSn_lf zr_143_37) (zSn_lf zr_143_40))))) (zSn_nd (zSn_nd (zSn_nd (zSn_lf zr_143_41) (zSn_lf zr_143_42)) (zSn_nd (zSn_lf zr_143_45) (zSn_lf zr_143_46))) (zSn_nd (zSn_nd (zSn_lf zr_143_47) (zSn_lf zr_143_48)) (zSn_nd (zSn_lf zr_143_51) (zSn_nd (zSn_lf zr_143_54) (zSn_lf zr_143_55)))))) (zSn_nd (zSn_nd (zSn_nd (zSn_nd (zSn_lf zr_143_56) (zSn_lf zr_143_57)) (zSn_nd (zSn_lf zr_143_58) (zSn_lf zr_143_61))) (zSn_nd (zSn_nd (zSn_lf zr_143_64) (zSn_lf zr_143_65)) (zSn_nd (zSn_lf zr_143_66) (zSn_nd (zSn_lf zr_143_67) (zSn_lf zr_143_68))))) (zSn_nd (zSn_nd (zSn_nd (zSn_lf zr_143_69) (zSn_lf zr_143_72)) (zSn_nd (zSn_lf zr_143_75) (zSn_nd (zSn_lf zr_143_76) (zSn_lf zr_143_77)))) (zSn_nd (zSn_nd (zSn_lf zr_143_78) (zSn_lf zr_143_81)) (zSn_nd (zSn_lf zr_143_82) (zSn_nd (zSn_lf zr_143_83) (zSn_lf zr_143_84)))))))
theorem zr_145_0 : zSnd 145 0 (o_aload 0 1) := zS_aload_n (i := 0) (by decide +kernel) rfl rfl
theorem zr_145_1 : zSnd 145 1 (o_aload 1 2) := zS_aload_n (i := 1) (by decide +kernel) rfl rfl
theorem zr_145_2 : zSnd 145 2 (o_getf 4 0 5) := zS_getf (idx := 42) (by decide +kernel) rfl (by decide) rfl (by decide) rfl zin_4 zq_176
theorem zr_145_5 : zSnd 145 5 (o_putf 4 0 8) := zS_putf (idx := 42) (by decide +kernel) rfl (by decide) rfl (by decide) rfl zin_4 tyX3_ok nmX3 rfl (by decide +kernel) zq_176
theorem zr_145_8 : zSnd 145 8 (o_aload 0 9) := zS_aload_n (i := 0) (by decide +kernel) rfl rfl
theorem zr_145_9 : zSnd 145 9 (o_aload 1 10) := zS_aload_n (i := 1) (by decide +kernel) rfl rfl
theorem zr_145_10 : zSnd 145 10 (o_getf 4 1 13) := zS_getf (idx := 46) (by decide +kernel) rfl (by decide) rfl (by decide) rfl zin_4 zq_177
theorem zr_145_13 : zSnd 145 13 (o_putf 4 1 16) := zS_putf (idx := 46) (by decide +kernel) rfl (by decide) rfl (by decide) rfl zin_4 tyX3_ok nmX3 rfl (by decide +kernel) zq_177
theorem zr_145_16 : zSnd 145 16 (o_aload 0 17) := zS_aload_n (i := 0) (by decide +kernel) rfl rfl
theorem zr_145_17 : zSnd 145 17 (o_aload 1 18) := zS_aload_n (i := 1) (by decide +kernel) rfl rfl
theorem zr_145_18 : zSnd 145 18 (o_getf 4 7 21) := zS_getf (idx := 49) (by decide +kernel) rfl (by decide) rfl (by decide) rfl zin_4 zq_178
theorem zr_145_21 : zSnd 145 21 (o_putf 4 7 24) := zS_putf (idx := 49) (by decide +kernel) rfl (by decide) rfl (by decide) rfl zin_4 tyX3_ok nmX3 rfl (by decide +kernel) zq_178
theorem zr_145_24 : zSnd 145 24 (o_aload 0 25) := zS_aload_n (i := 0) (by decide +kernel) rfl rfl
theorem zr_145_25 : zSnd 145 25 (o_aload 1 26) := zS_aload_n (i := 1) (by decide +kernel) rfl rfl
theorem zr_145_26 : zSnd 145 26 (o_getf 4 11 29) := zS_getf (idx := 52) (by decide +kernel) rfl (by decide) rfl (by decide) rfl zin_4 zq_179
theorem zr_145_29 : zSnd 145 29 (o_putz 4 11 32) := zS_putz (idx := 52) (by decide +kernel) rfl (by decide) rfl (by decide) rfl zin_4 tyX3_ok nmX3 rfl (by decide +kernel) zq_179
theorem zr_145_32 : zSnd 145 32 (o_aload 0 33) := zS_aload_n (i := 0) (by decide +kernel) rfl rfl
theorem zr_145_33 : zSnd 145 33 (o_aload 1 34) := zS_aload_n (i := 1) (by decide +kernel) rfl rfl
theorem zr_145_34 : zSnd 145 34 (o_getf 4 14 37) := zS_getf (idx := 56) (by decide +kernel) rfl (by decide) rfl (by decide) rfl zin_4 zq_180
theorem zr_145_37 : zSnd 145 37 (o_putf 4 14 40) := zS_putf (idx := 56) (by decide +kernel) rfl (by decide) rfl (by decide) rfl zin_4 tyX3_ok nmX3 rfl (by decide +kernel) zq_180
theorem zr_145_40 : zSnd 145 40 (o_aload 1 41) := zS_aload_n (i := 1) (by decide +kernel) rfl rfl
theorem zr_145_41 : zSnd 145 41 (o_getf 4 2 44) := zS_getf (idx := 9) (by decide +kernel) rfl (by decide) rfl (by decide) rfl zin_4 zq_181
theorem zr_145_44 : zSnd 145 44 (o_const 0 45) := zS_iconst (by decide +kernel) rfl (by decide)
theorem zr_145_45 : zSnd 145 45 (o_aload 0 46) := zS_aload_n (i := 0) (by decide +kernel) rfl rfl
theorem zr_145_46 : zSnd 145 46 (o_getf 4 2 49) := zS_getf (idx := 9) (by decide +kernel) rfl (by decide) rfl (by decide) rfl zin_4 zq_181
theorem zr_145_49 : zSnd 145 49 (o_const 0 50) := zS_iconst (by decide +kernel) rfl (by decide)
theorem zr_145_50 : zSnd 145 50 (o_const 6 52) := zS_bipush (by decide +kernel) rfl (by decide) (by decide)
theorem zr_145_52 : zSnd 145 52 (o_copy 55) := zS_copy (idx := 59) (by decide +kernel) rfl zq_182 zq_129 zq_130 zq_131 (by decide +kernel)
theorem zr_145_55 : zSnd 145 55 (o_aload 1 56) := zS_aload_n (i := 1) (by decide +kernel) rfl rfl
theorem zr_145_56 : zSnd 145 56 (o_getf 4 3 59) := zS_getf (idx := 15) (by decide +kernel) rfl (by decide) rfl (by decide) rfl zin_4 zq_183
theorem zr_145_59 : zSnd 145 59 (o_const 0 60) := zS_iconst (by decide +kernel) rfl (by decide)
theorem zr_145_60 : zSnd 145 60 (o_aload 0 61) := zS_aload_n (i := 0) (by decide +kernel) rfl rfl
theorem zr_145_61 : zSnd 145 61 (o_getf 4 3 64) := zS_getf (idx := 15) (by decide +kernel) rfl (by decide) rfl (by decide) rfl zin_4 zq_183
theorem zr_145_64 : zSnd 145 64 (o_const 0 65) := zS_iconst (by decide +kernel) rfl (by decide)
theorem zr_145_65 : zSnd 145 65 (o_const 6 67) := zS_bipush (by decide +kernel) rfl (by decide) (by decide)
theorem zr_145_67 : zSnd 145 67 (o_copy 70) := zS_copy (idx := 59) (by decide +kernel) rfl zq_182 zq_129 zq_130 zq_131 (by decide +kernel)
theorem zr_145_70 : zSnd 145 70 (o_aload 1 71) := zS_aload_n (i := 1) (by decide +kernel) rfl rfl
theorem zr_145_71 : zSnd 145 71 (o_getf 4 4 74) := zS_getf (idx := 18) (by decide +kernel) rfl (by decide) rfl (by decide) rfl zin_4 zq_184
theorem zr_145_74 : zSnd 145 74 (o_const 0 75) := zS_iconst (by decide +kernel) rfl (by decide)
theorem zr_145_75 : zSnd 145 75 (o_aload 0 76) := zS_aload_n (i := 0) (by decide +kernel) rfl rfl
theorem zr_145_76 : zSnd 145 76 (o_getf 4 4 79) := zS_getf (idx := 18) (by decide +kernel) rfl (by decide) rfl (by decide) rfl zin_4 zq_184
theorem zr_145_79 : zSnd 145 79 (o_const 0 80) := zS_iconst (by decide +kernel) rfl (by decide)
theorem zr_145_80 : zSnd 145 80 (o_const 6 82) := zS_bipush (by decide +kernel) rfl (by decide) (by decide)
theorem zr_145_82 : zSnd 145 82 (o_copy 85) := zS_copy (idx := 59) (by decide +kernel) rfl zq_182 zq_129 zq_130 zq_131 (by decide +kernel)
theorem zr_145_85 : zSnd 145 85 (o_aload 1 86) := zS_aload_n (i := 1) (by decide +kernel) rfl rfl
theorem zr_145_86 : zSnd 145 86 (o_getf 4 5 89) := zS_getf (idx := 21) (by decide +kernel) rfl (by decide) rfl (by decide) rfl zin_4 zq_185
theorem zr_145_89 : zSnd 145 89 (o_const 0 90) := zS_iconst (by decide +kernel) rfl (by decide)
theorem zr_145_90 : zSnd 145 90 (o_aload 0 91) := zS_aload_n (i := 0) (by decide +kernel) rfl rfl
theorem zr_145_91 : zSnd 145 91 (o_getf 4 5 94) := zS_getf (idx := 21) (by decide +kernel) rfl (by decide) rfl (by decide) rfl zin_4 zq_185
theorem zr_145_94 : zSnd 145 94 (o_const 0 95) := zS_iconst (by decide +kernel) rfl (by decide)
theorem zr_145_95 : zSnd 145 95 (o_const 30 97) := zS_bipush (by decide +kernel) rfl (by decide) (by decide)
theorem zr_145_97 : zSnd 145 97 (o_copy 100) := zS_copy (idx := 59) (by decide +kernel) rfl zq_182 zq_129 zq_130 zq_131 (by decide +kernel)
theorem zr_145_100 : zSnd 145 100 (o_aload 1 101) := zS_aload_n (i := 1) (by decide +kernel) rfl rfl
theorem zr_145_101 : zSnd 145 101 (o_getf 4 6 104) := zS_getf (idx := 24) (by decide +kernel) rfl (by decide) rfl (by decide) rfl zin_4 zq_186
theorem zr_145_104 : zSnd 145 104 (o_const 0 105) := zS_iconst (by decide +kernel) rfl (by decide)
theorem zr_145_105 : zSnd 145 105 (o_aload 0 106) := zS_aload_n (i := 0) (by decide +kernel) rfl rfl
theorem zr_145_106 : zSnd 145 106 (o_getf 4 6 109) := zS_getf (idx := 24) (by decide +kernel) rfl (by decide) rfl (by decide) rfl zin_4 zq_186
theorem zr_145_109 : zSnd 145 109 (o_const 0 110) := zS_iconst (by decide +kernel) rfl (by decide)
theorem zr_145_110 : zSnd 145 110 (o_const 30 112) := zS_bipush (by decide +kernel) rfl (by decide) (by decide)
theorem zr_145_112 : zSnd 145 112 (o_copy 115) := zS_copy (idx := 59) (by decide +kernel) rfl zq_182 zq_129 zq_130 zq_131 (by decide +kernel)
theorem zr_145_115 : zSnd 145 115 (o_aload 1 116) := zS_aload_n (i := 1) (by decide +kernel) rfl rfl
theorem zr_145_116 : zSnd 145 116 (o_getf 4 8 119) := zS_getf (idx := 27) (by decide +kernel) rfl (by decide) rfl (by decide) rfl zin_4 zq_187
theorem zr_145_119 : zSnd 145 119 (o_const 0 120) := zS_iconst (by decide +kernel) rfl (by decide)
theorem zr_145_120 : zSnd 145 120 (o_aload 0 121) := zS_aload_n (i := 0) (by decide +kernel) rfl rfl
theorem zr_145_121 : zSnd 145 121 (o_getf 4 8 124) := zS_getf (idx := 27) (by decide +kernel) rfl (by decide) rfl (by decide) rfl zin_4 zq_187
theorem zr_145_124 : zSnd 145 124 (o_const 0 125) := zS_iconst (by decide +kernel) rfl (by decide)
theorem zr_145_125 : zSnd 145 125 (o_const 6 127) := zS_bipush (by decide +kernel) rfl (by decide) (by decide)
theorem zr_145_127 : zSnd 145 127 (o_copy 130) := zS_copy (idx := 59) (by decide +kernel) rfl zq_182 zq_129 zq_130 zq_131 (by decide +kernel)
theorem zr_145_130 : zSnd 145 130 (o_aload 1 131) := zS_aload_n (i := 1) (by decide +kernel) rfl rfl
theorem zr_145_131 : zSnd 145 131 (o_getf 4 9 134) := zS_getf (idx := 30) (by decide +kernel) rfl (by decide) rfl (by decide) rfl zin_4 zq_188
theorem zr_145_134 : zSnd 145 134 (o_const 0 135) := zS_iconst (by decide +kernel) rfl (by decide)
theorem zr_145_135 : zSnd 145 135 (o_aload 0 136) := zS_aload_n (i := 0) (by decide +kernel) rfl rfl
theorem zr_145_136 : zSnd 145 136 (o_getf 4 9 139) := zS_getf (idx := 30) (by decide +kernel) rfl (by decide) rfl (by decide) rfl zin_4 zq_188
theorem zr_145_139 : zSnd 145 139 (o_const 0 140) := zS_iconst (by decide +kernel) rfl (by decide)
theorem zr_145_140 : zSnd 145 140 (o_const 6 142) := zS_bipush (by decide +kernel) rfl (by decide) (by decide)
theorem zr_145_142 : zSnd 145 142 (o_copy 145) := zS_copy (idx := 59) (by decide +kernel) rfl zq_182 zq_129 zq_130 zq_131 (by decide +kernel)
theorem zr_145_145 : zSnd 145 145 (o_aload 1 146) := zS_aload_n (i := 1) (by decide +kernel) rfl rfl
theorem zr_145_146 : zSnd 145 146 (o_getf 4 10 149) := zS_getf (idx := 33) (by decide +kernel) rfl (by decide) rfl (by decide) rfl zin_4 zq_189
theorem zr_145_149 : zSnd 145 149 (o_const 0 150) := zS_iconst (by decide +kernel) rfl (by decide)
theorem zr_145_150 : zSnd 145 150 (o_aload 0 151) := zS_aload_n (i := 0) (by decide +kernel) rfl rfl
theorem zr_145_151 : zSnd 145 151 (o_getf 4 10 154) := zS_getf (idx := 33) (by decide +kernel) rfl (by decide) rfl (by decide) rfl zin_4 zq_189
theorem zr_145_154 : zSnd 145 154 (o_const 0 155) := zS_iconst (by decide +kernel) rfl (by decide)
theorem zr_145_155 : zSnd 145 155 (o_const 6 157) := zS_bipush (by decide +kernel) rfl (by decide) (by decide)
theorem zr_145_157 : zSnd 145 157 (o_copy 160) := zS_copy (idx := 59) (by decide +kernel) rfl zq_182 zq_129 zq_130 zq_131 (by decide +kernel)
theorem zr_145_160 : zSnd 145 160 (o_aload 1 161) := zS_aload_n (i := 1) (by decide +kernel) rfl rfl
theorem zr_145_161 : zSnd 145 161 (o_getf 4 12 164) := zS_getf (idx := 36) (by decide +kernel) rfl (by decide) rfl (by decide) rfl zin_4 zq_190
theorem zr_145_164 : zSnd 145 164 (o_const 0 165) := zS_iconst (by decide +kernel) rfl (by decide)
theorem zr_145_165 : zSnd 145 165 (o_aload 0 166) := zS_aload_n (i := 0) (by decide +kernel) rfl rfl
theorem zr_145_166 : zSnd 145 166 (o_getf 4 12 169) := zS_getf (idx := 36) (by decide +kernel) rfl (by decide) rfl (by decide) rfl zin_4 zq_190
theorem zr_145_169 : zSnd 145 169 (o_const 0 170) := zS_iconst (by decide +kernel) rfl (by decide)
theorem zr_145_170 : zSnd 145 170 (o_const 30 172) := zS_bipush (by decide +kernel) rfl (by decide) (by decide)
theorem zr_145_172 : zSnd 145 172 (o_copy 175) := zS_copy (idx := 59) (by decide +kernel) rfl zq_182 zq_129 zq_130 zq_131 (by decide +kernel)
theorem zr_145_175 : zSnd 145 175 (o_aload 1 176) := zS_aload_n (i := 1) (by decide +kernel) rfl rfl
theorem zr_145_176 : zSnd 145 176 (o_getf 4 13 179) := zS_getf (idx := 39) (by decide +kernel) rfl (by decide) rfl (by decide) rfl zin_4 zq_191
theorem zr_145_179 : zSnd 145 179 (o_const 0 180) := zS_iconst (by decide +kernel) rfl (by decide)
theorem zr_145_180 : zSnd 145 180 (o_aload 0 181) := zS_aload_n (i := 0) (by decide +kernel) rfl rfl
theorem zr_145_181 : zSnd 145 181 (o_getf 4 13 184) := zS_getf (idx := 39) (by decide +kernel) rfl (by decide) rfl (by decide) rfl zin_4 zq_191
theorem zr_145_184 : zSnd 145 184 (o_const 0 185) := zS_iconst (by decide +kernel) rfl (by decide)
theorem zr_145_185 : zSnd 145 185 (o_const 30 187) := zS_bipush (by decide +kernel) rfl (by decide) (by decide)
theorem zr_145_187 : zSnd 145 187 (o_copy 190) := zS_copy (idx := 59) (by decide +kernel) rfl zq_182 zq_129 zq_130 zq_131 (by decide +kernel)
theorem zr_145_190 : zSnd 145 190 (o_ret) := zS_ret (by decide +kernel) (by decide +kernel)
theorem zT_145 (pc : Nat) : zSnd 145 pc (zc_145 pc) := by
  unfold zc_145
  exact (zSn_nd (zSn_nd (zSn_nd (zSn_nd (zSn_nd (zSn_nd (zSn_lf zr_145_0) (zSn_nd (zSn_lf zr_145_1) (zSn_lf zr_145_2))) (zSn_nd (zSn_lf zr_145_5) (zSn_nd (zSn_lf zr_145_8) (zSn_lf zr_145_9)))) (zSn_nd (zSn_nd (zSn_lf zr_145_10) (zSn_nd (zSn_lf zr_145_13) (zSn_lf zr_145_16))) (zSn_nd (zSn_lf zr_145_17) (zSn_nd (zSn_lf zr_145_18) (zSn_lf zr_145_21))))) (zSn_nd (zSn_nd (zSn_nd (zSn_lf zr_145_24) (zSn_nd (zSn_lf zr_145_25) (zSn_lf zr_145_26))) (zSn_nd (zSn_lf zr_145_29) (zSn_nd (zSn_lf zr_145_32) (zSn_lf zr_145_33)))) (zSn_nd (zSn_nd (zSn_lf zr_145_34) (zSn_nd (zSn_lf zr_145_37) (zSn_lf zr_145_40))) (zSn_nd (zSn_nd (zSn_lf zr_145_41) (zSn_lf zr_145_44)) (zSn_nd (zSn_lf zr_145_45) (zSn_lf zr_145_46)))))) (zSn_nd (zSn_nd (zSn_nd (zSn_nd (zSn_lf zr_145_49) (zSn_nd (zSn_lf zr_145_50) (zSn_lf zr_145_52))) (zSn_nd (zSn_lf zr_145_55) (zSn_nd (zSn_lf zr_145_56) (zSn_lf zr_145_59)))) (zSn_nd (zSn_nd (zSn_lf zr_145_60) (zSn_nd (zSn_lf zr_145_61) (zSn_lf zr_145_64))) (zSn_nd (zSn_lf zr_145_65) (zSn_nd (zSn_lf zr_145_67) (zSn_lf zr_145_70))))) (zSn_nd (zSn_nd (zSn_nd (zSn_lf zr_145_71) (zSn_nd (zSn_lf zr_145_74) (zSn_lf zr_145_75))) (zSn_nd (zSn_lf zr_145_76) (zSn_nd (zSn_lf zr_145_79) (zSn_lf zr_145_80)))) (zSn_nd (zSn_nd (zSn_lf zr_145_82) (zSn_nd (zSn_lf zr_145_85) (zSn_lf zr_145_86))) (zSn_nd (zSn_nd (zSn_lf zr_145_89) (zSn_lf zr_145_90)) (zSn_nd (zSn_lf zr_145_91) (zSn_lf zr_145_94))))))) (zSn_nd (zSn_nd (zSn_nd (zSn_nd (zSn_nd (zSn_lf zr_145_95) (zSn_nd (zSn_lf zr_145_97) (zSn_lf zr_145_100))) (zSn_nd (zSn_lf zr_145_101) (zSn_nd (zSn_lf zr_145_104) (zSn_lf zr_145_105)))) (zSn_nd (zSn_nd (zSn_lf zr_145_106) (zSn_nd (zSn_lf zr_145_109) (zSn_lf zr_145_110))) (zSn_nd (zSn_lf zr_145_112) (zSn_nd (zSn_lf zr_145_115) (zSn_lf zr_145_116))))) (zSn_nd (zSn_nd (zSn_nd (zSn_lf zr_145_119) (zSn_nd (zSn_lf zr_145_120) (zSn_lf zr_145_121))) (zSn_nd (zSn_lf zr_145_124) (zSn_nd (zSn_lf zr_145_125) (zSn_lf zr_145_127)))) (zSn_nd (zSn_nd (zSn_lf zr_145_130) (zSn_nd (zSn_lf zr_145_131) (zSn_lf zr_145_134))) (zSn_nd (zSn_nd (zSn_lf zr_145_135) (zSn_lf zr_145_136)) (zSn_nd (zSn_lf zr_145_139) (zSn_lf zr_145_140)))))) (zSn_nd (zSn_nd (zSn_nd (zSn_nd (zSn_lf zr_145_142) (zSn_nd (zSn_lf zr_145_145) (zSn_lf zr_145_146))) (zSn_nd (zSn_lf zr_145_149) (zSn_nd (zSn_lf zr_145_150) (zSn_lf zr_145_151)))) (zSn_nd (zSn_nd (zSn_lf zr_145_154) (zSn_nd (zSn_lf zr_145_155) (zSn_lf zr_145_157))) (zSn_nd (zSn_nd (zSn_lf zr_145_160) (zSn_lf zr_145_161)) (zSn_nd (zSn_lf zr_145_164) (zSn_lf zr_145_165))))) (zSn_nd (zSn_nd (zSn_nd (zSn_lf zr_145_166) (zSn_nd (zSn_lf zr_145_169) (zSn_lf zr_145_170))) (zSn_nd (zSn_lf zr_145_172) (zSn_nd (zSn_lf zr_145_175) (zSn_lf zr_145_176)))) (zSn_nd (zSn_nd (zSn_lf zr_145_179) (zSn_nd (zSn_lf zr_145_180) (zSn_lf zr_145_181))) (zSn_nd (zSn_nd (zSn_lf zr_145_184) (zSn_lf zr_145_185)) (zSn_nd (zSn_lf zr_145_187) (zSn_lf zr_145_190))))))))
theorem zr_146_0 : zSnd 146 0 (o_iload 1 1) := zS_iload_n (i := 1) (by decide +kernel) rfl rfl
theorem zr_146_1 : zSnd 146 1 (o_iflt 16 4) := zS_iflt (by decide +kernel : decode (zmB 146) 1 = .ok (.ifCond .lt 15, 3)) rfl (by decide)
theorem zr_146_4 : zSnd 146 4 (o_iload 1 5) := zS_iload_n (i := 1) (by decide +kernel) rfl rfl
theorem zr_146_5 : zSnd 146 5 (o_aload 0 6) := zS_aload_n (i := 0) (by decide +kernel) rfl rfl
theorem zr_146_6 : zSnd 146 6 (o_getf 4 0 9) := zS_getf (idx := 42) (by decide +kernel) rfl (by decide) rfl (by decide) rfl zin_4 zq_176
theorem zr_146_9 : zSnd 146 9 (o_cge 16 12) := zS_cge (by decide +kernel : decode (zmB 146) 9 = .ok (.if_icmp .ge 7, 3)) rfl (by decide)
theorem zr_146_12 : zSnd 146 12 (o_const 1 13) := zS_iconst (by decide +kernel) rfl (by decide)
theorem zr_146_13 : zSnd 146 13 (o_goto 17) := zS_goto (by decide +kernel : decode (zmB 146) 13 = .ok (.goto 4, 3)) (by decide)
theorem zr_146_16 : zSnd 146 16 (o_const 0 17) := zS_iconst (by decide +kernel) rfl (by decide)
theorem zr_146_17 : zSnd 146 17 (o_zret) := zS_zret (by decide +kernel) (by decide +kernel)
theorem zT_146 (pc : Nat) : zSnd 146 pc (zc_146 pc) := by
  unfold zc_146
  exact (zSn_nd (zSn_nd (zSn_nd (zSn_lf zr_146_0) (zSn_lf zr_146_1)) (zSn_nd (zSn_lf zr_146_4) (zSn_nd (zSn_lf zr_146_5) (zSn_lf zr_146_6)))) (zSn_nd (zSn_nd (zSn_lf zr_146_9) (zSn_lf zr_146_12)) (zSn_nd (zSn_lf zr_146_13) (zSn_nd (zSn_lf zr_146_16) (zSn_lf zr_146_17)))))
theorem zr_147_0 : zSnd 147 0 (o_iload 1 1) := zS_iload_n (i := 1) (by decide +kernel) rfl rfl
theorem zr_147_1 : zSnd 147 1 (o_iflt 16 4) := zS_iflt (by decide +kernel : decode (zmB 147) 1 = .ok (.ifCond .lt 15, 3)) rfl (by decide)
theorem zr_147_4 : zSnd 147 4 (o_iload 1 5) := zS_iload_n (i := 1) (by decide +kernel) rfl rfl
theorem zr_147_5 : zSnd 147 5 (o_aload 0 6) := zS_aload_n (i := 0) (by decide +kernel) rfl rfl
theorem zr_147_6 : zSnd 147 6 (o_getf 4 1 9) := zS_getf (idx := 46) (by decide +kernel) rfl (by decide) rfl (by decide) rfl zin_4 zq_177
theorem zr_147_9 : zSnd 147 9 (o_cge 16 12) := zS_cge (by decide +kernel : decode (zmB 147) 9 = .ok (.if_icmp .ge 7, 3)) rfl (by decide)
theorem zr_147_12 : zSnd 147 12 (o_const 1 13) := zS_iconst (by decide +kernel) rfl (by decide)
theorem zr_147_13 : zSnd 147 13 (o_goto 17) := zS_goto (by decide +kernel : decode (zmB 147) 13 = .ok (.goto 4, 3)) (by decide)
theorem zr_147_16 : zSnd 147 16 (o_const 0 17) := zS_iconst (by decide +kernel) rfl (by decide)
theorem zr_147_17 : zSnd 147 17 (o_zret) := zS_zret (by decide +kernel) (by decide +kernel)
theorem zT_147 (pc : Nat) : zSnd 147 pc (zc_147 pc) := by
  unfold zc_147
  exact (zSn_nd (zSn_nd (zSn_nd (zSn_lf zr_147_0) (zSn_lf zr_147_1)) (zSn_nd (zSn_lf zr_147_4) (zSn_nd (zSn_lf zr_147_5) (zSn_lf zr_147_6)))) (zSn_nd (zSn_nd (zSn_lf zr_147_9) (zSn_lf zr_147_12)) (zSn_nd (zSn_lf zr_147_13) (zSn_nd (zSn_lf zr_147_16) (zSn_lf zr_147_17)))))
theorem zr_148_0 : zSnd 148 0 (o_aload 0 1) := zS_aload_n (i := 0) (by decide +kernel) rfl rfl
theorem zr_148_1 : zSnd 148 1 (o_iload 1 2) := zS_iload_n (i := 1) (by decide +kernel) rfl rfl
theorem zr_148_2 : zSnd 148 2 (o_callv 4 147 2 2 1 5) := zS_callV (n := 1) (idx := 65) (by decide +kernel) rfl rfl (by decide) rfl zq_192 zq_14 zq_15 (by decide +kernel) zMk_147 (by decide +kernel) (by decide +kernel) (by decide +kernel)
theorem zr_148_5 : zSnd 148 5 (o_ifeq 26 8) := zS_ifeq (by decide +kernel : decode (zmB 148) 5 = .ok (.ifCond .eq 21, 3)) rfl (by decide)
theorem zr_148_8 : zSnd 148 8 (o_iload 2 9) := zS_iload_n (i := 2) (by decide +kernel) rfl rfl
theorem zr_148_9 : zSnd 148 9 (o_iflt 26 12) := zS_iflt (by decide +kernel : decode (zmB 148) 9 = .ok (.ifCond .lt 17, 3)) rfl (by decide)
theorem zr_148_12 : zSnd 148 12 (o_iload 2 13) := zS_iload_n (i := 2) (by decide +kernel) rfl rfl
theorem zr_148_13 : zSnd 148 13 (o_aload 0 14) := zS_aload_n (i := 0) (by decide +kernel) rfl rfl
theorem zr_148_14 : zSnd 148 14 (o_getf 4 4 17) := zS_getf (idx := 18) (by decide +kernel) rfl (by decide) rfl (by decide) rfl zin_4 zq_184
theorem zr_148_17 : zSnd 148 17 (o_iload 1 18) := zS_iload_n (i := 1) (by decide +kernel) rfl rfl
theorem zr_148_18 : zSnd 148 18 (o_iald 19) := zS_iald (by decide +kernel) rfl
theorem zr_148_19 : zSnd 148 19 (o_cge 26 22) := zS_cge (by decide +kernel : decode (zmB 148) 19 = .ok (.if_icmp .ge 7, 3)) rfl (by decide)
theorem zr_148_22 : zSnd 148 22 (o_const 1 23) := zS_iconst (by decide +kernel) rfl (by decide)
theorem zr_148_23 : zSnd 148 23 (o_goto 27) := zS_goto (by decide +kernel : decode (zmB 148) 23 = .ok (.goto 4, 3)) (by decide)
theorem zr_148_26 : zSnd 148 26 (o_const 0 27) := zS_iconst (by decide +kernel) rfl (by decide)
theorem zr_148_27 : zSnd 148 27 (o_zret) := zS_zret (by decide +kernel) (by decide +kernel)
theorem zT_148 (pc : Nat) : zSnd 148 pc (zc_148 pc) := by
  unfold zc_148
  exact (zSn_nd (zSn_nd (zSn_nd (zSn_nd (zSn_lf zr_148_0) (zSn_lf zr_148_1)) (zSn_nd (zSn_lf zr_148_2) (zSn_lf zr_148_5))) (zSn_nd (zSn_nd (zSn_lf zr_148_8) (zSn_lf zr_148_9)) (zSn_nd (zSn_lf zr_148_12) (zSn_lf zr_148_13)))) (zSn_nd (zSn_nd (zSn_nd (zSn_lf zr_148_14) (zSn_lf zr_148_17)) (zSn_nd (zSn_lf zr_148_18) (zSn_lf zr_148_19))) (zSn_nd (zSn_nd (zSn_lf zr_148_22) (zSn_lf zr_148_23)) (zSn_nd (zSn_lf zr_148_26) (zSn_lf zr_148_27)))))
theorem zr_150_0 : zSnd 150 0 (o_aload 0 1) := zS_aload_n (i := 0) (by decide +kernel) rfl rfl
theorem zr_150_1 : zSnd 150 1 (o_getf 4 1 4) := zS_getf (idx := 46) (by decide +kernel) rfl (by decide) rfl (by decide) rfl zin_4 zq_177
theorem zr_150_4 : zSnd 150 4 (o_const 6 6) := zS_bipush (by decide +kernel) rfl (by decide) (by decide)
theorem zr_150_6 : zSnd 150 6 (o_cge 13 9) := zS_cge (by decide +kernel : decode (zmB 150) 6 = .ok (.if_icmp .ge 7, 3)) rfl (by decide)
theorem zr_150_9 : zSnd 150 9 (o_const 1 10) := zS_iconst (by decide +kernel) rfl (by decide)
theorem zr_150_10 : zSnd 150 10 (o_goto 14) := zS_goto (by decide +kernel : decode (zmB 150) 10 = .ok (.goto 4, 3)) (by decide)
theorem zr_150_13 : zSnd 150 13 (o_const 0 14) := zS_iconst (by decide +kernel) rfl (by decide)
theorem zr_150_14 : zSnd 150 14 (o_zret) := zS_zret (by decide +kernel) (by decide +kernel)
theorem zT_150 (pc : Nat) : zSnd 150 pc (zc_150 pc) := by
  unfold zc_150
  exact (zSn_nd (zSn_nd (zSn_nd (zSn_lf zr_150_0) (zSn_lf zr_150_1)) (zSn_nd (zSn_lf zr_150_4) (zSn_lf zr_150_6))) (zSn_nd (zSn_nd (zSn_lf zr_150_9) (zSn_lf zr_150_10)) (zSn_nd (zSn_lf zr_150_13) (zSn_lf zr_150_14))))
theorem zr_151_0 : zSnd 151 0 (o_aload 0 1) := zS_aload_n (i := 0) (by decide +kernel) rfl rfl
theorem zr_151_1 : zSnd 151 1 (o_getf 4 4 4) := zS_getf (idx := 18) (by decide +kernel) rfl (by decide) rfl (by decide) rfl zin_4 zq_184
theorem zr_151_4 : zSnd 151 4 (o_iload 1 5) := zS_iload_n (i := 1) (by decide +kernel) rfl rfl
theorem zr_151_5 : zSnd 151 5 (o_iald 6) := zS_iald (by decide +kernel) rfl
theorem zr_151_6 : zSnd 151 6 (o_const 5 7) := zS_iconst (by decide +kernel) rfl (by decide)
theorem zr_151_7 : zSnd 151 7 (o_cge 14 10) := zS_cge (by decide +kernel : decode (zmB 151) 7 = .ok (.if_icmp .ge 7, 3)) rfl (by decide)
theorem zr_151_10 : zSnd 151 10 (o_const 1 11) := zS_iconst (by decide +kernel) rfl (by decide)
theorem zr_151_11 : zSnd 151 11 (o_goto 15) := zS_goto (by decide +kernel : decode (zmB 151) 11 = .ok (.goto 4, 3)) (by decide)
theorem zr_151_14 : zSnd 151 14 (o_const 0 15) := zS_iconst (by decide +kernel) rfl (by decide)
theorem zr_151_15 : zSnd 151 15 (o_zret) := zS_zret (by decide +kernel) (by decide +kernel)
theorem zT_151 (pc : Nat) : zSnd 151 pc (zc_151 pc) := by
  unfold zc_151
  exact (zSn_nd (zSn_nd (zSn_nd (zSn_lf zr_151_0) (zSn_lf zr_151_1)) (zSn_nd (zSn_lf zr_151_4) (zSn_nd (zSn_lf zr_151_5) (zSn_lf zr_151_6)))) (zSn_nd (zSn_nd (zSn_lf zr_151_7) (zSn_lf zr_151_10)) (zSn_nd (zSn_lf zr_151_11) (zSn_nd (zSn_lf zr_151_14) (zSn_lf zr_151_15)))))
theorem zr_152_0 : zSnd 152 0 (o_aload 0 1) := zS_aload_n (i := 0) (by decide +kernel) rfl rfl
theorem zr_152_1 : zSnd 152 1 (o_getf 4 7 4) := zS_getf (idx := 49) (by decide +kernel) rfl (by decide) rfl (by decide) rfl zin_4 zq_178
theorem zr_152_4 : zSnd 152 4 (o_const 6 6) := zS_bipush (by decide +kernel) rfl (by decide) (by decide)
theorem zr_152_6 : zSnd 152 6 (o_cge 13 9) := zS_cge (by decide +kernel : decode (zmB 152) 6 = .ok (.if_icmp .ge 7, 3)) rfl (by decide)
theorem zr_152_9 : zSnd 152 9 (o_const 1 10) := zS_iconst (by decide +kernel) rfl (by decide)
theorem zr_152_10 : zSnd 152 10 (o_goto 14) := zS_goto (by decide +kernel : decode (zmB 152) 10 = .ok (.goto 4, 3)) (by decide)
theorem zr_152_13 : zSnd 152 13 (o_const 0 14) := zS_iconst (by decide +kernel) rfl (by decide)
theorem zr_152_14 : zSnd 152 14 (o_zret) := zS_zret (by decide +kernel) (by decide +kernel)
theorem zT_152 (pc : Nat) : zSnd 152 pc (zc_152 pc) := by
  unfold zc_152
  exact (zSn_nd (zSn_nd (zSn_nd (zSn_lf zr_152_0) (zSn_lf zr_152_1)) (zSn_nd (zSn_lf zr_152_4) (zSn_lf zr_152_6))) (zSn_nd (zSn_nd (zSn_lf zr_152_9) (zSn_lf zr_152_10)) (zSn_nd (zSn_lf zr_152_13) (zSn_lf zr_152_14))))
