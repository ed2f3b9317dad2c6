/-! ===== 11: a row for each step (written by a program) ===== -/
theorem zr_21_0 : zSnd 21 0 (o_iload 1 1) := zS_iload_n (i := 1) (by decide +kernel) rfl rfl
theorem zr_21_1 : zSnd 21 1 (o_call 34 1 1 1 4) := zS_callS (idx := 115) (by decide +kernel) rfl zq_36 zq_37 (by decide +kernel) zMk_34 (by decide +kernel) (by decide +kernel) (by decide +kernel)
theorem zr_21_4 : zSnd 21 4 (o_ifne 17 7) := zS_ifne (by decide +kernel : decode (zmB 21) 4 = .ok (.ifCond .ne 13, 3)) rfl (by decide)
theorem zr_21_7 : zSnd 21 7 (o_thr 1) := zS_thr
theorem zr_21_17 : zSnd 21 17 (o_const (-1) 18) := zS_iconst (by decide +kernel) rfl (by decide)
theorem zr_21_18 : zSnd 21 18 (o_istore 2 19) := zS_istore_n (i := 2) (by decide +kernel) rfl rfl (by decide +kernel)
theorem zr_21_19 : zSnd 21 19 (o_aload 0 20) := zS_aload_n (i := 0) (by decide +kernel) rfl rfl
theorem zr_21_20 : zSnd 21 20 (o_getf 5 0 23) := zS_getf (idx := 12) (by decide +kernel) rfl (by decide) rfl (by decide) rfl zin_5 zq_42
theorem zr_21_23 : zSnd 21 23 (o_iload 1 24) := zS_iload_n (i := 1) (by decide +kernel) rfl rfl
theorem zr_21_24 : zSnd 21 24 (o_callv 3 132 2 2 1 27) := zS_callVN (n := 1) (idx := 245) (by decide +kernel) rfl rfl (by decide) rfl zq_102 zq_103 zq_104 (by decide +kernel) zMk_132 (by decide +kernel) (by decide +kernel) (by decide +kernel)
theorem zr_21_27 : zSnd 21 27 (o_istore 3 28) := zS_istore_n (i := 3) (by decide +kernel) rfl rfl (by decide +kernel)
theorem zr_21_28 : zSnd 21 28 (o_const 0 29) := zS_iconst (by decide +kernel) rfl (by decide)
theorem zr_21_29 : zSnd 21 29 (o_istore 4 31) := zS_istore (by decide +kernel) rfl (by decide +kernel)
theorem zr_21_31 : zSnd 21 31 (o_iload 4 33) := zS_iload (by decide +kernel) rfl
theorem zr_21_33 : zSnd 21 33 (o_aload 0 34) := zS_aload_n (i := 0) (by decide +kernel) rfl rfl
theorem zr_21_34 : zSnd 21 34 (o_getf 5 1 37) := zS_getf (idx := 20) (by decide +kernel) rfl (by decide) rfl (by decide) rfl zin_5 zq_3
theorem zr_21_37 : zSnd 21 37 (o_getf 4 1 40) := zS_getfN (idx := 50) (by decide +kernel) rfl (by decide) rfl (by decide) rfl zin_4 zq_7
theorem zr_21_40 : zSnd 21 40 (o_cge 105 43) := zS_cge (by decide +kernel : decode (zmB 21) 40 = .ok (.if_icmp .ge 65, 3)) rfl (by decide)
theorem zr_21_43 : zSnd 21 43 (o_const 0 44) := zS_iconst (by decide +kernel) rfl (by decide)
theorem zr_21_44 : zSnd 21 44 (o_istore 5 46) := zS_istore (by decide +kernel) rfl (by decide +kernel)
theorem zr_21_46 : zSnd 21 46 (o_iload 5 48) := zS_iload (by decide +kernel) rfl
theorem zr_21_48 : zSnd 21 48 (o_aload 0 49) := zS_aload_n (i := 0) (by decide +kernel) rfl rfl
theorem zr_21_49 : zSnd 21 49 (o_getf 5 1 52) := zS_getf (idx := 20) (by decide +kernel) rfl (by decide) rfl (by decide) rfl zin_5 zq_3
theorem zr_21_52 : zSnd 21 52 (o_getf 4 4 55) := zS_getfN (idx := 186) (by decide +kernel) rfl (by decide) rfl (by decide) rfl zin_4 zq_68
theorem zr_21_55 : zSnd 21 55 (o_iload 4 57) := zS_iload (by decide +kernel) rfl
theorem zr_21_57 : zSnd 21 57 (o_iald 58) := zS_iald (by decide +kernel) rfl
theorem zr_21_58 : zSnd 21 58 (o_cge 99 61) := zS_cge (by decide +kernel : decode (zmB 21) 58 = .ok (.if_icmp .ge 41, 3)) rfl (by decide)
theorem zr_21_61 : zSnd 21 61 (o_aload 0 62) := zS_aload_n (i := 0) (by decide +kernel) rfl rfl
theorem zr_21_62 : zSnd 21 62 (o_iload 4 64) := zS_iload (by decide +kernel) rfl
theorem zr_21_64 : zSnd 21 64 (o_iload 5 66) := zS_iload (by decide +kernel) rfl
theorem zr_21_66 : zSnd 21 66 (o_call 35 2 2 1 69) := zS_callS (idx := 176) (by decide +kernel) rfl zq_65 zq_66 (by decide +kernel) zMk_35 (by decide +kernel) (by decide +kernel) (by decide +kernel)
theorem zr_21_69 : zSnd 21 69 (o_iload 1 70) := zS_iload_n (i := 1) (by decide +kernel) rfl rfl
theorem zr_21_70 : zSnd 21 70 (o_callv 5 31 3 4 1 73) := zS_callV (n := 2) (idx := 263) (by decide +kernel) rfl rfl (by decide) rfl zq_117 zq_118 zq_119 (by decide +kernel) zMk_31 (by decide +kernel) (by decide +kernel) (by decide +kernel)
theorem zr_21_73 : zSnd 21 73 (o_istore 6 75) := zS_istore (by decide +kernel) rfl (by decide +kernel)
theorem zr_21_75 : zSnd 21 75 (o_iload 6 77) := zS_iload (by decide +kernel) rfl
theorem zr_21_77 : zSnd 21 77 (o_iload 3 78) := zS_iload_n (i := 3) (by decide +kernel) rfl rfl
theorem zr_21_78 : zSnd 21 78 (o_cge 93 81) := zS_cge (by decide +kernel : decode (zmB 21) 78 = .ok (.if_icmp .ge 15, 3)) rfl (by decide)
theorem zr_21_81 : zSnd 21 81 (o_const 10 83) := zS_bipush (by decide +kernel) rfl (by decide) (by decide)
theorem zr_21_83 : zSnd 21 83 (o_iload 4 85) := zS_iload (by decide +kernel) rfl
theorem zr_21_85 : zSnd 21 85 (o_imul 86) := zS_imul (by decide +kernel) rfl
theorem zr_21_86 : zSnd 21 86 (o_iload 5 88) := zS_iload (by decide +kernel) rfl
theorem zr_21_88 : zSnd 21 88 (o_iadd 89) := zS_iadd (by decide +kernel) rfl
theorem zr_21_89 : zSnd 21 89 (o_istore 2 90) := zS_istore_n (i := 2) (by decide +kernel) rfl rfl (by decide +kernel)
theorem zr_21_90 : zSnd 21 90 (o_iload 6 92) := zS_iload (by decide +kernel) rfl
theorem zr_21_92 : zSnd 21 92 (o_istore 3 93) := zS_istore_n (i := 3) (by decide +kernel) rfl rfl (by decide +kernel)
theorem zr_21_93 : zSnd 21 93 (o_iinc 5 1 96) := zS_iinc (by decide +kernel) rfl (by decide +kernel)
theorem zr_21_96 : zSnd 21 96 (o_goto 46) := zS_goto (by decide +kernel : decode (zmB 21) 96 = .ok (.goto (-50), 3)) (by decide)
theorem zr_21_99 : zSnd 21 99 (o_iinc 4 1 102) := zS_iinc (by decide +kernel) rfl (by decide +kernel)
theorem zr_21_102 : zSnd 21 102 (o_goto 31) := zS_goto (by decide +kernel : decode (zmB 21) 102 = .ok (.goto (-71), 3)) (by decide)
theorem zr_21_105 : zSnd 21 105 (o_iload 2 106) := zS_iload_n (i := 2) (by decide +kernel) rfl rfl
theorem zr_21_106 : zSnd 21 106 (o_iret) := zS_iret (by decide +kernel) (by decide +kernel)
theorem zT_21 (pc : Nat) : zSnd 21 pc (zc_21 pc) := by
  unfold zc_21
  exact (zSn_nd (zSn_nd (zSn_nd (zSn_nd (zSn_nd (zSn_lf zr_21_0) (zSn_nd (zSn_lf zr_21_1) (zSn_lf zr_21_4))) (zSn_nd (zSn_lf zr_21_7) (zSn_nd (zSn_lf zr_21_17) (zSn_lf zr_21_18)))) (zSn_nd (zSn_nd (zSn_lf zr_21_19) (zSn_nd (zSn_lf zr_21_20) (zSn_lf zr_21_23))) (zSn_nd (zSn_lf zr_21_24) (zSn_nd (zSn_lf zr_21_27) (zSn_lf zr_21_28))))) (zSn_nd (zSn_nd (zSn_nd (zSn_lf zr_21_29) (zSn_nd (zSn_lf zr_21_31) (zSn_lf zr_21_33))) (zSn_nd (zSn_lf zr_21_34) (zSn_nd (zSn_lf zr_21_37) (zSn_lf zr_21_40)))) (zSn_nd (zSn_nd (zSn_lf zr_21_43) (zSn_nd (zSn_lf zr_21_44) (zSn_lf zr_21_46))) (zSn_nd (zSn_nd (zSn_lf zr_21_48) (zSn_lf zr_21_49)) (zSn_nd (zSn_lf zr_21_52) (zSn_lf zr_21_55)))))) (zSn_nd (zSn_nd (zSn_nd (zSn_nd (zSn_lf zr_21_57) (zSn_nd (zSn_lf zr_21_58) (zSn_lf zr_21_61))) (zSn_nd (zSn_lf zr_21_62) (zSn_nd (zSn_lf zr_21_64) (zSn_lf zr_21_66)))) (zSn_nd (zSn_nd (zSn_lf zr_21_69) (zSn_nd (zSn_lf zr_21_70) (zSn_lf zr_21_73))) (zSn_nd (zSn_nd (zSn_lf zr_21_75) (zSn_lf zr_21_77)) (zSn_nd (zSn_lf zr_21_78) (zSn_lf zr_21_81))))) (zSn_nd (zSn_nd (zSn_nd (zSn_lf zr_21_83) (zSn_nd (zSn_lf zr_21_85) (zSn_lf zr_21_86))) (zSn_nd (zSn_lf zr_21_88) (zSn_nd (zSn_lf zr_21_89) (zSn_lf zr_21_90)))) (zSn_nd (zSn_nd (zSn_lf zr_21_92) (zSn_nd (zSn_lf zr_21_93) (zSn_lf zr_21_96))) (zSn_nd (zSn_nd (zSn_lf zr_21_99) (zSn_lf zr_21_102)) (zSn_nd (zSn_lf zr_21_105) (zSn_lf zr_21_106)))))))
theorem zr_22_0 : zSnd 22 0 (o_iload 1 1) := zS_iload_n (i := 1) (by decide +kernel) rfl rfl
theorem zr_22_1 : zSnd 22 1 (o_const 0 2) := zS_iconst (by decide +kernel) rfl (by decide)
theorem zr_22_2 : zSnd 22 2 (o_const 127 4) := zS_bipush (by decide +kernel) rfl (by decide) (by decide)
theorem zr_22_4 : zSnd 22 4 (o_call 33 3 3 1 7) := zS_callS (idx := 35) (by decide +kernel) rfl zq_0 zq_1 (by decide +kernel) zMk_33 (by decide +kernel) (by decide +kernel) (by decide +kernel)
theorem zr_22_7 : zSnd 22 7 (o_ifne 21 10) := zS_ifne (by decide +kernel : decode (zmB 22) 7 = .ok (.ifCond .ne 14, 3)) rfl (by decide)
theorem zr_22_10 : zSnd 22 10 (o_thr 1) := zS_thr
theorem zr_22_21 : zSnd 22 21 (o_aload 0 22) := zS_aload_n (i := 0) (by decide +kernel) rfl rfl
theorem zr_22_22 : zSnd 22 22 (o_getf 5 3 25) := zS_getf (idx := 31) (by decide +kernel) rfl (by decide) rfl (by decide) rfl zin_5 zq_120
theorem zr_22_25 : zSnd 22 25 (o_getf 2 1 28) := zS_getfN (idx := 274) (by decide +kernel) rfl (by decide) rfl (by decide) rfl zin_2 zq_121
theorem zr_22_28 : zSnd 22 28 (o_const 100 30) := zS_bipush (by decide +kernel) rfl (by decide) (by decide)
theorem zr_22_30 : zSnd 22 30 (o_clt 44 33) := zS_clt (by decide +kernel : decode (zmB 22) 30 = .ok (.if_icmp .lt 14, 3)) rfl (by decide)
theorem zr_22_33 : zSnd 22 33 (o_thr 2) := zS_thr
theorem zr_22_44 : zSnd 22 44 (o_aload 0 45) := zS_aload_n (i := 0) (by decide +kernel) rfl rfl
theorem zr_22_45 : zSnd 22 45 (o_getf 5 3 48) := zS_getf (idx := 31) (by decide +kernel) rfl (by decide) rfl (by decide) rfl zin_5 zq_120
theorem zr_22_48 : zSnd 22 48 (o_getf 2 0 51) := zS_getfN (idx := 279) (by decide +kernel) rfl (by decide) rfl (by decide) rfl zin_2 zq_122
theorem zr_22_51 : zSnd 22 51 (o_aload 0 52) := zS_aload_n (i := 0) (by decide +kernel) rfl rfl
theorem zr_22_52 : zSnd 22 52 (o_getf 5 3 55) := zS_getf (idx := 31) (by decide +kernel) rfl (by decide) rfl (by decide) rfl zin_5 zq_120
theorem zr_22_55 : zSnd 22 55 (o_getf 2 1 58) := zS_getfN (idx := 274) (by decide +kernel) rfl (by decide) rfl (by decide) rfl zin_2 zq_121
theorem zr_22_58 : zSnd 22 58 (o_iload 1 59) := zS_iload_n (i := 1) (by decide +kernel) rfl rfl
theorem zr_22_59 : zSnd 22 59 (o_iast 60) := zS_iast (by decide +kernel) rfl
theorem zr_22_60 : zSnd 22 60 (o_aload 0 61) := zS_aload_n (i := 0) (by decide +kernel) rfl rfl
theorem zr_22_61 : zSnd 22 61 (o_getf 5 3 64) := zS_getf (idx := 31) (by decide +kernel) rfl (by decide) rfl (by decide) rfl zin_5 zq_120
theorem zr_22_64 : zSnd 22 64 (o_dup 65) := zS_dup (by decide +kernel) rfl
theorem zr_22_65 : zSnd 22 65 (o_getf 2 1 68) := zS_getfN (idx := 274) (by decide +kernel) rfl (by decide) rfl (by decide) rfl zin_2 zq_121
theorem zr_22_68 : zSnd 22 68 (o_const 1 69) := zS_iconst (by decide +kernel) rfl (by decide)
theorem zr_22_69 : zSnd 22 69 (o_iadd 70) := zS_iadd (by decide +kernel) rfl
theorem zr_22_70 : zSnd 22 70 (o_putf 2 1 73) := zS_putfN (idx := 274) (by decide +kernel) rfl (by decide) rfl (by decide) rfl zin_2 tyX1_ok nmX1 rfl (by decide +kernel) zq_121
theorem zr_22_73 : zSnd 22 73 (o_aload 0 74) := zS_aload_n (i := 0) (by decide +kernel) rfl rfl
theorem zr_22_74 : zSnd 22 74 (o_getf 5 3 77) := zS_getf (idx := 31) (by decide +kernel) rfl (by decide) rfl (by decide) rfl zin_5 zq_120
theorem zr_22_77 : zSnd 22 77 (o_getf 2 1 80) := zS_getfN (idx := 274) (by decide +kernel) rfl (by decide) rfl (by decide) rfl zin_2 zq_121
theorem zr_22_80 : zSnd 22 80 (o_iret) := zS_iret (by decide +kernel) (by decide +kernel)
theorem zT_22 (pc : Nat) : zSnd 22 pc (zc_22 pc) := by
  unfold zc_22
  exact (zSn_nd (zSn_nd (zSn_nd (zSn_nd (zSn_lf zr_22_0) (zSn_nd (zSn_lf zr_22_1) (zSn_lf zr_22_2))) (zSn_nd (zSn_nd (zSn_lf zr_22_4) (zSn_lf zr_22_7)) (zSn_nd (zSn_lf zr_22_10) (zSn_lf zr_22_21)))) (zSn_nd (zSn_nd (zSn_nd (zSn_lf zr_22_22) (zSn_lf zr_22_25)) (zSn_nd (zSn_lf zr_22_28) (zSn_lf zr_22_30))) (zSn_nd (zSn_nd (zSn_lf zr_22_33) (zSn_lf zr_22_44)) (zSn_nd (zSn_lf zr_22_45) (zSn_lf zr_22_48))))) (zSn_nd (zSn_nd (zSn_nd (zSn_nd (zSn_lf zr_22_51) (zSn_lf zr_22_52)) (zSn_nd (zSn_lf zr_22_55) (zSn_lf zr_22_58))) (zSn_nd (zSn_nd (zSn_lf zr_22_59) (zSn_lf zr_22_60)) (zSn_nd (zSn_lf zr_22_61) (zSn_lf zr_22_64)))) (zSn_nd (zSn_nd (zSn_nd (zSn_lf zr_22_65) (zSn_lf zr_22_68)) (zSn_nd (zSn_lf zr_22_69) (zSn_lf zr_22_70))) (zSn_nd (zSn_nd (zSn_lf zr_22_73) (zSn_lf zr_22_74)) (zSn_nd (zSn_lf zr_22_77) (zSn_lf zr_22_80))))))
theorem zr_23_0 : zSnd 23 0 (o_aload 0 1) := zS_aload_n (i := 0) (by decide +kernel) rfl rfl
theorem zr_23_1 : zSnd 23 1 (o_getf 5 3 4) := zS_getf (idx := 31) (by decide +kernel) rfl (by decide) rfl (by decide) rfl zin_5 zq_120
theorem zr_23_4 : zSnd 23 4 (o_getf 2 1 7) := zS_getfN (idx := 274) (by decide +kernel) rfl (by decide) rfl (by decide) rfl zin_2 zq_121
theorem zr_23_7 : zSnd 23 7 (o_istore 1 8) := zS_istore_n (i := 1) (by decide +kernel) rfl rfl (by decide +kernel)
theorem zr_23_8 : zSnd 23 8 (o_aload 0 9) := zS_aload_n (i := 0) (by decide +kernel) rfl rfl
theorem zr_23_9 : zSnd 23 9 (o_getf 5 3 12) := zS_getf (idx := 31) (by decide +kernel) rfl (by decide) rfl (by decide) rfl zin_5 zq_120
theorem zr_23_12 : zSnd 23 12 (o_const 0 13) := zS_iconst (by decide +kernel) rfl (by decide)
theorem zr_23_13 : zSnd 23 13 (o_putf 2 1 16) := zS_putfN (idx := 274) (by decide +kernel) rfl (by decide) rfl (by decide) rfl zin_2 tyX1_ok nmX1 rfl (by decide +kernel) zq_121
theorem zr_23_16 : zSnd 23 16 (o_iload 1 17) := zS_iload_n (i := 1) (by decide +kernel) rfl rfl
theorem zr_23_17 : zSnd 23 17 (o_iret) := zS_iret (by decide +kernel) (by decide +kernel)
theorem zT_23 (pc : Nat) : zSnd 23 pc (zc_23 pc) := by
  unfold zc_23
  exact (zSn_nd (zSn_nd (zSn_nd (zSn_lf zr_23_0) (zSn_lf zr_23_1)) (zSn_nd (zSn_lf zr_23_4) (zSn_nd (zSn_lf zr_23_7) (zSn_lf zr_23_8)))) (zSn_nd (zSn_nd (zSn_lf zr_23_9) (zSn_lf zr_23_12)) (zSn_nd (zSn_lf zr_23_13) (zSn_nd (zSn_lf zr_23_16) (zSn_lf zr_23_17)))))
theorem zr_24_0 : zSnd 24 0 (o_aload 0 1) := zS_aload_n (i := 0) (by decide +kernel) rfl rfl
theorem zr_24_1 : zSnd 24 1 (o_getf 5 3 4) := zS_getf (idx := 31) (by decide +kernel) rfl (by decide) rfl (by decide) rfl zin_5 zq_120
theorem zr_24_4 : zSnd 24 4 (o_callv 2 120 1 2 1 7) := zS_callVN (n := 0) (idx := 282) (by decide +kernel) rfl rfl (by decide) rfl zq_123 zq_124 zq_125 (by decide +kernel) zMk_120 (by decide +kernel) (by decide +kernel) (by decide +kernel)
theorem zr_24_7 : zSnd 24 7 (o_istore 1 8) := zS_istore_n (i := 1) (by decide +kernel) rfl rfl (by decide +kernel)
theorem zr_24_8 : zSnd 24 8 (o_iload 1 9) := zS_iload_n (i := 1) (by decide +kernel) rfl rfl
theorem zr_24_9 : zSnd 24 9 (o_const (-1) 10) := zS_iconst (by decide +kernel) rfl (by decide)
theorem zr_24_10 : zSnd 24 10 (o_ceq 18 13) := zS_ceq (by decide +kernel : decode (zmB 24) 10 = .ok (.if_icmp .eq 8, 3)) rfl (by decide)
theorem zr_24_13 : zSnd 24 13 (o_const (-10) 15) := zS_bipush (by decide +kernel) rfl (by decide) (by decide)
theorem zr_24_15 : zSnd 24 15 (o_iload 1 16) := zS_iload_n (i := 1) (by decide +kernel) rfl rfl
theorem zr_24_16 : zSnd 24 16 (o_isub 17) := zS_isub (by decide +kernel) rfl
theorem zr_24_17 : zSnd 24 17 (o_iret) := zS_iret (by decide +kernel) (by decide +kernel)
theorem zr_24_18 : zSnd 24 18 (o_aload 0 19) := zS_aload_n (i := 0) (by decide +kernel) rfl rfl
theorem zr_24_19 : zSnd 24 19 (o_getf 5 2 22) := zS_getf (idx := 24) (by decide +kernel) rfl (by decide) rfl (by decide) rfl zin_5 zq_2
theorem zr_24_22 : zSnd 24 22 (o_aload 0 23) := zS_aload_n (i := 0) (by decide +kernel) rfl rfl
theorem zr_24_23 : zSnd 24 23 (o_getf 5 1 26) := zS_getf (idx := 20) (by decide +kernel) rfl (by decide) rfl (by decide) rfl zin_5 zq_3
theorem zr_24_26 : zSnd 24 26 (o_callv 1 117 2 2 0 29) := zS_callVN (n := 1) (idx := 46) (by decide +kernel) rfl rfl (by decide) rfl zq_4 zq_5 zq_6 (by decide +kernel) zMk_117 (by decide +kernel) (by decide +kernel) (by decide +kernel)
theorem zr_24_29 : zSnd 24 29 (o_aload 0 30) := zS_aload_n (i := 0) (by decide +kernel) rfl rfl
theorem zr_24_30 : zSnd 24 30 (o_getf 5 3 33) := zS_getf (idx := 31) (by decide +kernel) rfl (by decide) rfl (by decide) rfl zin_5 zq_120
theorem zr_24_33 : zSnd 24 33 (o_callv 2 119 1 1 0 36) := zS_callVN (n := 0) (idx := 285) (by decide +kernel) rfl rfl (by decide) rfl zq_126 zq_127 zq_128 (by decide +kernel) zMk_119 (by decide +kernel) (by decide +kernel) (by decide +kernel)
theorem zr_24_36 : zSnd 24 36 (o_const 0 37) := zS_iconst (by decide +kernel) rfl (by decide)
theorem zr_24_37 : zSnd 24 37 (o_istore 2 38) := zS_istore_n (i := 2) (by decide +kernel) rfl rfl (by decide +kernel)
theorem zr_24_38 : zSnd 24 38 (o_const 0 39) := zS_iconst (by decide +kernel) rfl (by decide)
theorem zr_24_39 : zSnd 24 39 (o_istore 3 40) := zS_istore_n (i := 3) (by decide +kernel) rfl rfl (by decide +kernel)
theorem zr_24_40 : zSnd 24 40 (o_iload 3 41) := zS_iload_n (i := 3) (by decide +kernel) rfl rfl
theorem zr_24_41 : zSnd 24 41 (o_const 100 43) := zS_bipush (by decide +kernel) rfl (by decide) (by decide)
theorem zr_24_43 : zSnd 24 43 (o_cge 74 46) := zS_cge (by decide +kernel : decode (zmB 24) 43 = .ok (.if_icmp .ge 31, 3)) rfl (by decide)
theorem zr_24_46 : zSnd 24 46 (o_aload 0 47) := zS_aload_n (i := 0) (by decide +kernel) rfl rfl
theorem zr_24_47 : zSnd 24 47 (o_getf 5 3 50) := zS_getf (idx := 31) (by decide +kernel) rfl (by decide) rfl (by decide) rfl zin_5 zq_120
theorem zr_24_50 : zSnd 24 50 (o_callv 2 121 1 1 1 53) := zS_callVN (n := 0) (idx := 288) (by decide +kernel) rfl rfl (by decide) rfl zq_129 zq_130 zq_131 (by decide +kernel) zMk_121 (by decide +kernel) (by decide +kernel) (by decide +kernel)
theorem zr_24_53 : zSnd 24 53 (o_ifeq 63 56) := zS_ifeq (by decide +kernel : decode (zmB 24) 53 = .ok (.ifCond .eq 10, 3)) rfl (by decide)
theorem zr_24_56 : zSnd 24 56 (o_aload 0 57) := zS_aload_n (i := 0) (by decide +kernel) rfl rfl
theorem zr_24_57 : zSnd 24 57 (o_callv 5 32 1 4 1 60) := zS_callV (n := 0) (idx := 291) (by decide +kernel) rfl rfl (by decide) rfl zq_132 zq_133 zq_134 (by decide +kernel) zMk_32 (by decide +kernel) (by decide +kernel) (by decide +kernel)
theorem zr_24_60 : zSnd 24 60 (o_ifne 65 63) := zS_ifne (by decide +kernel : decode (zmB 24) 60 = .ok (.ifCond .ne 5, 3)) rfl (by decide)
theorem zr_24_63 : zSnd 24 63 (o_iload 2 64) := zS_iload_n (i := 2) (by decide +kernel) rfl rfl
theorem zr_24_64 : zSnd 24 64 (o_iret) := zS_iret (by decide +kernel) (by decide +kernel)
theorem zr_24_65 : zSnd 24 65 (o_iinc 2 1 68) := zS_iinc (by decide +kernel) rfl (by decide +kernel)
theorem zr_24_68 : zSnd 24 68 (o_iinc 3 1 71) := zS_iinc (by decide +kernel) rfl (by decide +kernel)
theorem zr_24_71 : zSnd 24 71 (o_goto 40) := zS_goto (by decide +kernel : decode (zmB 24) 71 = .ok (.goto (-31), 3)) (by decide)
theorem zr_24_74 : zSnd 24 74 (o_iload 2 75) := zS_iload_n (i := 2) (by decide +kernel) rfl rfl
theorem zr_24_75 : zSnd 24 75 (o_iret) := zS_iret (by decide +kernel) (by decide +kernel)
theorem zT_24 (pc : Nat) : zSnd 24 pc (zc_24 pc) := by
  unfold zc_24
  exact (zSn_nd (zSn_nd (zSn_nd (zSn_nd (zSn_nd (zSn_lf zr_24_0) (zSn_lf zr_24_1)) (zSn_nd (zSn_lf zr_24_4) (zSn_nd (zSn_lf zr_24_7) (zSn_lf zr_24_8)))) (zSn_nd (zSn_nd (zSn_lf zr_24_9) (zSn_lf zr_24_10)) (zSn_nd (zSn_lf zr_24_13) (zSn_nd (zSn_lf zr_24_15) (zSn_lf zr_24_16))))) (zSn_nd (zSn_nd (zSn_nd (zSn_lf zr_24_17) (zSn_lf zr_24_18)) (zSn_nd (zSn_lf zr_24_19) (zSn_nd (zSn_lf zr_24_22) (zSn_lf zr_24_23)))) (zSn_nd (zSn_nd (zSn_lf zr_24_26) (zSn_lf zr_24_29)) (zSn_nd (zSn_lf zr_24_30) (zSn_nd (zSn_lf zr_24_33) (zSn_lf zr_24_36)))))) (zSn_nd (zSn_nd (zSn_nd (zSn_nd (zSn_lf zr_24_37) (zSn_lf zr_24_38)) (zSn_nd (zSn_lf zr_24_39) (zSn_nd (zSn_lf zr_24_40) (zSn_lf zr_24_41)))) (zSn_nd (zSn_nd (zSn_lf zr_24_43) (zSn_lf zr_24_46)) (zSn_nd (zSn_lf zr_24_47) (zSn_nd (zSn_lf zr_24_50) (zSn_lf zr_24_53))))) (zSn_nd (zSn_nd (zSn_nd (zSn_lf zr_24_56) (zSn_lf zr_24_57)) (zSn_nd (zSn_lf zr_24_60) (zSn_nd (zSn_lf zr_24_63) (zSn_lf zr_24_64)))) (zSn_nd (zSn_nd (zSn_lf zr_24_65) (zSn_lf zr_24_68)) (zSn_nd (zSn_lf zr_24_71) (zSn_nd (zSn_lf zr_24_74) (zSn_lf zr_24_75)))))))
theorem zr_25_0 : zSnd 25 0 (o_aload 0 1) := zS_aload_n (i := 0) (by decide +kernel) rfl rfl
theorem zr_25_1 : zSnd 25 1 (o_getf 5 2 4) := zS_getf (idx := 24) (by decide +kernel) rfl (by decide) rfl (by decide) rfl zin_5 zq_2
theorem zr_25_4 : zSnd 25 4 (o_getf 1 2 7) := zS_getfN (idx := 294) (by decide +kernel) rfl (by decide) rfl (by decide) rfl zin_1 zq_135
theorem zr_25_7 : zSnd 25 7 (o_ifne 21 10) := zS_ifne (by decide +kernel : decode (zmB 25) 7 = .ok (.ifCond .ne 14, 3)) rfl (by decide)
theorem zr_25_10 : zSnd 25 10 (o_thr 2) := zS_thr
theorem zr_25_21 : zSnd 25 21 (o_aload 0 22) := zS_aload_n (i := 0) (by decide +kernel) rfl rfl
theorem zr_25_22 : zSnd 25 22 (o_getf 5 2 25) := zS_getf (idx := 24) (by decide +kernel) rfl (by decide) rfl (by decide) rfl zin_5 zq_2
theorem zr_25_25 : zSnd 25 25 (o_aload 0 26) := zS_aload_n (i := 0) (by decide +kernel) rfl rfl
theorem zr_25_26 : zSnd 25 26 (o_getf 5 1 29) := zS_getf (idx := 20) (by decide +kernel) rfl (by decide) rfl (by decide) rfl zin_5 zq_3
theorem zr_25_29 : zSnd 25 29 (o_callv 1 118 2 2 0 32) := zS_callVN (n := 1) (idx := 299) (by decide +kernel) rfl rfl (by decide) rfl zq_136 zq_137 zq_138 (by decide +kernel) zMk_118 (by decide +kernel) (by decide +kernel) (by decide +kernel)
theorem zr_25_32 : zSnd 25 32 (o_aload 0 33) := zS_aload_n (i := 0) (by decide +kernel) rfl rfl
theorem zr_25_33 : zSnd 25 33 (o_getf 5 2 36) := zS_getf (idx := 24) (by decide +kernel) rfl (by decide) rfl (by decide) rfl zin_5 zq_2
theorem zr_25_36 : zSnd 25 36 (o_getf 1 2 39) := zS_getfN (idx := 294) (by decide +kernel) rfl (by decide) rfl (by decide) rfl zin_1 zq_135
theorem zr_25_39 : zSnd 25 39 (o_iret) := zS_iret (by decide +kernel) (by decide +kernel)
theorem zT_25 (pc : Nat) : zSnd 25 pc (zc_25 pc) := by
  unfold zc_25
  exact (zSn_nd (zSn_nd (zSn_nd (zSn_lf zr_25_0) (zSn_nd (zSn_lf zr_25_1) (zSn_lf zr_25_4))) (zSn_nd (zSn_nd (zSn_lf zr_25_7) (zSn_lf zr_25_10)) (zSn_nd (zSn_lf zr_25_21) (zSn_lf zr_25_22)))) (zSn_nd (zSn_nd (zSn_lf zr_25_25) (zSn_nd (zSn_lf zr_25_26) (zSn_lf zr_25_29))) (zSn_nd (zSn_nd (zSn_lf zr_25_32) (zSn_lf zr_25_33)) (zSn_nd (zSn_lf zr_25_36) (zSn_lf zr_25_39)))))
theorem zr_26_0 : zSnd 26 0 (o_lconst 3719 3) := zS_ldc2 (idx := 302) (by decide +kernel) rfl zq_139
theorem zr_26_3 : zSnd 26 3 (o_aload 0 4) := zS_aload_n (i := 0) (by decide +kernel) rfl rfl
theorem zr_26_4 : zSnd 26 4 (o_getf 5 3 7) := zS_getf (idx := 31) (by decide +kernel) rfl (by decide) rfl (by decide) rfl zin_5 zq_120
theorem zr_26_7 : zSnd 26 7 (o_getf 2 1 10) := zS_getfN (idx := 274) (by decide +kernel) rfl (by decide) rfl (by decide) rfl zin_2 zq_121
theorem zr_26_10 : zSnd 26 10 (o_call 28 2 3 2 13) := zS_callS (idx := 304) (by decide +kernel) rfl zq_140 zq_141 (by decide +kernel) zMk_28 (by decide +kernel) (by decide +kernel) (by decide +kernel)
theorem zr_26_13 : zSnd 26 13 (o_lstore 1 14) := zS_lstore_n (i := 1) (by decide +kernel) rfl rfl (by decide +kernel)
theorem zr_26_14 : zSnd 26 14 (o_const 0 15) := zS_iconst (by decide +kernel) rfl (by decide)
theorem zr_26_15 : zSnd 26 15 (o_istore 3 16) := zS_istore_n (i := 3) (by decide +kernel) rfl rfl (by decide +kernel)
theorem zr_26_16 : zSnd 26 16 (o_iload 3 17) := zS_iload_n (i := 3) (by decide +kernel) rfl rfl
theorem zr_26_17 : zSnd 26 17 (o_const 9 19) := zS_bipush (by decide +kernel) rfl (by decide) (by decide)
theorem zr_26_19 : zSnd 26 19 (o_cgt 38 22) := zS_cgt (by decide +kernel : decode (zmB 26) 19 = .ok (.if_icmp .gt 19, 3)) rfl (by decide)
theorem zr_26_22 : zSnd 26 22 (o_lload 1 23) := zS_lload_n (i := 1) (by decide +kernel) rfl rfl
theorem zr_26_23 : zSnd 26 23 (o_aload 0 24) := zS_aload_n (i := 0) (by decide +kernel) rfl rfl
theorem zr_26_24 : zSnd 26 24 (o_iload 3 25) := zS_iload_n (i := 3) (by decide +kernel) rfl rfl
theorem zr_26_25 : zSnd 26 25 (o_callv 5 14 2 2 1 28) := zS_callV (n := 1) (idx := 308) (by decide +kernel) rfl rfl (by decide) rfl zq_142 zq_143 zq_144 (by decide +kernel) zMk_14 (by decide +kernel) (by decide +kernel) (by decide +kernel)
theorem zr_26_28 : zSnd 26 28 (o_call 28 2 3 2 31) := zS_callS (idx := 304) (by decide +kernel) rfl zq_140 zq_141 (by decide +kernel) zMk_28 (by decide +kernel) (by decide +kernel) (by decide +kernel)
theorem zr_26_31 : zSnd 26 31 (o_lstore 1 32) := zS_lstore_n (i := 1) (by decide +kernel) rfl rfl (by decide +kernel)
theorem zr_26_32 : zSnd 26 32 (o_iinc 3 1 35) := zS_iinc (by decide +kernel) rfl (by decide +kernel)
theorem zr_26_35 : zSnd 26 35 (o_goto 16) := zS_goto (by decide +kernel : decode (zmB 26) 35 = .ok (.goto (-19), 3)) (by decide)
theorem zr_26_38 : zSnd 26 38 (o_const 0 39) := zS_iconst (by decide +kernel) rfl (by decide)
theorem zr_26_39 : zSnd 26 39 (o_istore 3 40) := zS_istore_n (i := 3) (by decide +kernel) rfl rfl (by decide +kernel)
theorem zr_26_40 : zSnd 26 40 (o_iload 3 41) := zS_iload_n (i := 3) (by decide +kernel) rfl rfl
theorem zr_26_41 : zSnd 26 41 (o_aload 0 42) := zS_aload_n (i := 0) (by decide +kernel) rfl rfl
theorem zr_26_42 : zSnd 26 42 (o_getf 5 1 45) := zS_getf (idx := 20) (by decide +kernel) rfl (by decide) rfl (by decide) rfl zin_5 zq_3
theorem zr_26_45 : zSnd 26 45 (o_getf 4 1 48) := zS_getfN (idx := 50) (by decide +kernel) rfl (by decide) rfl (by decide) rfl zin_4 zq_7
theorem zr_26_48 : zSnd 26 48 (o_cge 64 51) := zS_cge (by decide +kernel : decode (zmB 26) 48 = .ok (.if_icmp .ge 16, 3)) rfl (by decide)
theorem zr_26_51 : zSnd 26 51 (o_aload 0 52) := zS_aload_n (i := 0) (by decide +kernel) rfl rfl
theorem zr_26_52 : zSnd 26 52 (o_lload 1 53) := zS_lload_n (i := 1) (by decide +kernel) rfl rfl
theorem zr_26_53 : zSnd 26 53 (o_iload 3 54) := zS_iload_n (i := 3) (by decide +kernel) rfl rfl
theorem zr_26_54 : zSnd 26 54 (o_callv 5 27 3 8 2 57) := zS_callV (n := 2) (idx := 311) (by decide +kernel) rfl rfl (by decide) rfl zq_145 zq_146 zq_147 (by decide +kernel) zMk_27 (by decide +kernel) (by decide +kernel) (by decide +kernel)
theorem zr_26_57 : zSnd 26 57 (o_lstore 1 58) := zS_lstore_n (i := 1) (by decide +kernel) rfl rfl (by decide +kernel)
theorem zr_26_58 : zSnd 26 58 (o_iinc 3 1 61) := zS_iinc (by decide +kernel) rfl (by decide +kernel)
theorem zr_26_61 : zSnd 26 61 (o_goto 40) := zS_goto (by decide +kernel : decode (zmB 26) 61 = .ok (.goto (-21), 3)) (by decide)
theorem zr_26_64 : zSnd 26 64 (o_const 0 65) := zS_iconst (by decide +kernel) rfl (by decide)
theorem zr_26_65 : zSnd 26 65 (o_istore 3 66) := zS_istore_n (i := 3) (by decide +kernel) rfl rfl (by decide +kernel)
theorem zr_26_66 : zSnd 26 66 (o_iload 3 67) := zS_iload_n (i := 3) (by decide +kernel) rfl rfl
theorem zr_26_67 : zSnd 26 67 (o_aload 0 68) := zS_aload_n (i := 0) (by decide +kernel) rfl rfl
theorem zr_26_68 : zSnd 26 68 (o_getf 5 1 71) := zS_getf (idx := 20) (by decide +kernel) rfl (by decide) rfl (by decide) rfl zin_5 zq_3
theorem zr_26_71 : zSnd 26 71 (o_getf 4 7 74) := zS_getfN (idx := 110) (by decide +kernel) rfl (by decide) rfl (by decide) rfl zin_4 zq_35
theorem zr_26_74 : zSnd 26 74 (o_cge 110 77) := zS_cge (by decide +kernel : decode (zmB 26) 74 = .ok (.if_icmp .ge 36, 3)) rfl (by decide)
theorem zr_26_77 : zSnd 26 77 (o_const 0 78) := zS_iconst (by decide +kernel) rfl (by decide)
theorem zr_26_78 : zSnd 26 78 (o_istore 4 80) := zS_istore (by decide +kernel) rfl (by decide +kernel)
theorem zr_26_80 : zSnd 26 80 (o_iload 4 82) := zS_iload (by decide +kernel) rfl
theorem zr_26_82 : zSnd 26 82 (o_const 2 83) := zS_iconst (by decide +kernel) rfl (by decide)
theorem zr_26_83 : zSnd 26 83 (o_cgt 104 86) := zS_cgt (by decide +kernel : decode (zmB 26) 83 = .ok (.if_icmp .gt 21, 3)) rfl (by decide)
theorem zr_26_86 : zSnd 26 86 (o_lload 1 87) := zS_lload_n (i := 1) (by decide +kernel) rfl rfl
theorem zr_26_87 : zSnd 26 87 (o_aload 0 88) := zS_aload_n (i := 0) (by decide +kernel) rfl rfl
theorem zr_26_88 : zSnd 26 88 (o_iload 3 89) := zS_iload_n (i := 3) (by decide +kernel) rfl rfl
theorem zr_26_89 : zSnd 26 89 (o_iload 4 91) := zS_iload (by decide +kernel) rfl
theorem zr_26_91 : zSnd 26 91 (o_callv 5 13 3 3 1 94) := zS_callV (n := 2) (idx := 314) (by decide +kernel) rfl rfl (by decide) rfl zq_148 zq_149 zq_150 (by decide +kernel) zMk_13 (by decide +kernel) (by decide +kernel) (by decide +kernel)
theorem zr_26_94 : zSnd 26 94 (o_call 28 2 3 2 97) := zS_callS (idx := 304) (by decide +kernel) rfl zq_140 zq_141 (by decide +kernel) zMk_28 (by decide +kernel) (by decide +kernel) (by decide +kernel)
theorem zr_26_97 : zSnd 26 97 (o_lstore 1 98) := zS_lstore_n (i := 1) (by decide +kernel) rfl rfl (by decide +kernel)
theorem zr_26_98 : zSnd 26 98 (o_iinc 4 1 101) := zS_iinc (by decide +kernel) rfl (by decide +kernel)
theorem zr_26_101 : zSnd 26 101 (o_goto 80) := zS_goto (by decide +kernel : decode (zmB 26) 101 = .ok (.goto (-21), 3)) (by decide)
theorem zr_26_104 : zSnd 26 104 (o_iinc 3 1 107) := zS_iinc (by decide +kernel) rfl (by decide +kernel)
theorem zr_26_107 : zSnd 26 107 (o_goto 66) := zS_goto (by decide +kernel : decode (zmB 26) 107 = .ok (.goto (-41), 3)) (by decide)
theorem zr_26_110 : zSnd 26 110 (o_lload 1 111) := zS_lload_n (i := 1) (by decide +kernel) rfl rfl
theorem zr_26_111 : zSnd 26 111 (o_aload 0 112) := zS_aload_n (i := 0) (by decide +kernel) rfl rfl
theorem zr_26_112 : zSnd 26 112 (o_callv 5 15 1 1 1 115) := zS_callV (n := 0) (idx := 317) (by decide +kernel) rfl rfl (by decide) rfl zq_151 zq_152 zq_153 (by decide +kernel) zMk_15 (by decide +kernel) (by decide +kernel) (by decide +kernel)
theorem zr_26_115 : zSnd 26 115 (o_call 28 2 3 2 118) := zS_callS (idx := 304) (by decide +kernel) rfl zq_140 zq_141 (by decide +kernel) zMk_28 (by decide +kernel) (by decide +kernel) (by decide +kernel)
theorem zr_26_118 : zSnd 26 118 (o_lstore 1 119) := zS_lstore_n (i := 1) (by decide +kernel) rfl rfl (by decide +kernel)
theorem zr_26_119 : zSnd 26 119 (o_lload 1 120) := zS_lload_n (i := 1) (by decide +kernel) rfl rfl
theorem zr_26_120 : zSnd 26 120 (o_aload 0 121) := zS_aload_n (i := 0) (by decide +kernel) rfl rfl
theorem zr_26_121 : zSnd 26 121 (o_callv 5 19 1 1 1 124) := zS_callV (n := 0) (idx := 320) (by decide +kernel) rfl rfl (by decide) rfl zq_154 zq_155 zq_156 (by decide +kernel) zMk_19 (by decide +kernel) (by decide +kernel) (by decide +kernel)
theorem zr_26_124 : zSnd 26 124 (o_call 28 2 3 2 127) := zS_callS (idx := 304) (by decide +kernel) rfl zq_140 zq_141 (by decide +kernel) zMk_28 (by decide +kernel) (by decide +kernel) (by decide +kernel)
theorem zr_26_127 : zSnd 26 127 (o_lstore 1 128) := zS_lstore_n (i := 1) (by decide +kernel) rfl rfl (by decide +kernel)
theorem zr_26_128 : zSnd 26 128 (o_lload 1 129) := zS_lload_n (i := 1) (by decide +kernel) rfl rfl
theorem zr_26_129 : zSnd 26 129 (o_aload 0 130) := zS_aload_n (i := 0) (by decide +kernel) rfl rfl
theorem zr_26_130 : zSnd 26 130 (o_getf 5 2 133) := zS_getf (idx := 24) (by decide +kernel) rfl (by decide) rfl (by decide) rfl zin_5 zq_2
theorem zr_26_133 : zSnd 26 133 (o_getf 1 2 136) := zS_getfN (idx := 294) (by decide +kernel) rfl (by decide) rfl (by decide) rfl zin_1 zq_135
theorem zr_26_136 : zSnd 26 136 (o_call 28 2 3 2 139) := zS_callS (idx := 304) (by decide +kernel) rfl zq_140 zq_141 (by decide +kernel) zMk_28 (by decide +kernel) (by decide +kernel) (by decide +kernel)
theorem zr_26_139 : zSnd 26 139 (o_lret) := zS_lret (by decide +kernel) (by decide +kernel)
theorem zT_26 (pc : Nat) : zSnd 26 pc (zc_26 pc) := by
  unfold zc_26
  exact (zSn_nd (zSn_nd (zSn_nd (zSn_nd (zSn_nd (zSn_nd (zSn_lf zr_26_0) (zSn_lf zr_26_3)) (zSn_nd (zSn_lf zr_26_4) (zSn_lf zr_26_7))) (zSn_nd (zSn_nd (zSn_lf zr_26_10) (zSn_lf zr_26_13)) (zSn_nd (zSn_lf zr_26_14) (zSn_nd (zSn_lf zr_26_15) (zSn_lf zr_26_16))))) (zSn_nd (zSn_nd (zSn_nd (zSn_lf zr_26_17) (zSn_lf zr_26_19)) (zSn_nd (zSn_lf zr_26_22) (zSn_lf zr_26_23))) (zSn_nd (zSn_nd (zSn_lf zr_26_24) (zSn_lf zr_26_25)) (zSn_nd (zSn_lf zr_26_28) (zSn_nd (zSn_lf zr_26_31) (zSn_lf zr_26_32)))))) (zSn_nd (zSn_nd (zSn_nd (zSn_nd (zSn_lf zr_26_35) (zSn_lf zr_26_38)) (zSn_nd (zSn_lf zr_26_39) (zSn_lf zr_26_40))) (zSn_nd (zSn_nd (zSn_lf zr_26_41) (zSn_lf zr_26_42)) (zSn_nd (zSn_lf zr_26_45) (zSn_nd (zSn_lf zr_26_48) (zSn_lf zr_26_51))))) (zSn_nd (zSn_nd (zSn_nd (zSn_lf zr_26_52) (zSn_lf zr_26_53)) (zSn_nd (zSn_lf zr_26_54) (zSn_lf zr_26_57))) (zSn_nd (zSn_nd (zSn_lf zr_26_58) (zSn_lf zr_26_61)) (zSn_nd (zSn_lf zr_26_64) (zSn_nd (zSn_lf zr_26_65) (zSn_lf zr_26_66))))))) (zSn_nd (zSn_nd (zSn_nd (zSn_nd (zSn_nd (zSn_lf zr_26_67) (zSn_lf zr_26_68)) (zSn_nd (zSn_lf zr_26_71) (zSn_lf zr_26_74))) (zSn_nd (zSn_nd (zSn_lf zr_26_77) (zSn_lf zr_26_78)) (zSn_nd (zSn_lf zr_26_80) (zSn_nd (zSn_lf zr_26_82) (zSn_lf zr_26_83))))) (zSn_nd (zSn_nd (zSn_nd (zSn_lf zr_26_86) (zSn_lf zr_26_87)) (zSn_nd (zSn_lf zr_26_88) (zSn_lf zr_26_89))) (zSn_nd (zSn_nd (zSn_lf zr_26_91) (zSn_lf zr_26_94)) (zSn_nd (zSn_lf zr_26_97) (zSn_nd (zSn_lf zr_26_98) (zSn_lf zr_26_101)))))) (zSn_nd (zSn_nd (zSn_nd (zSn_nd (zSn_lf zr_26_104) (zSn_lf zr_26_107)) (zSn_nd (zSn_lf zr_26_110) (zSn_lf zr_26_111))) (zSn_nd (zSn_nd (zSn_lf zr_26_112) (zSn_lf zr_26_115)) (zSn_nd (zSn_lf zr_26_118) (zSn_nd (zSn_lf zr_26_119) (zSn_lf zr_26_120))))) (zSn_nd (zSn_nd (zSn_nd (zSn_lf zr_26_121) (zSn_lf zr_26_124)) (zSn_nd (zSn_lf zr_26_127) (zSn_lf zr_26_128))) (zSn_nd (zSn_nd (zSn_lf zr_26_129) (zSn_lf zr_26_130)) (zSn_nd (zSn_lf zr_26_133) (zSn_nd (zSn_lf zr_26_136) (zSn_lf zr_26_139))))))))
theorem zr_27_0 : zSnd 27 0 (o_lload 1 1) := zS_lload_n (i := 1) (by decide +kernel) rfl rfl
theorem zr_27_1 : zSnd 27 1 (o_lstore 4 3) := zS_lstore (by decide +kernel) rfl (by decide +kernel)
theorem zr_27_3 : zSnd 27 3 (o_const 0 4) := zS_iconst (by decide +kernel) rfl (by decide)
theorem zr_27_4 : zSnd 27 4 (o_istore 6 6) := zS_istore (by decide +kernel) rfl (by decide +kernel)
theorem zr_27_6 : zSnd 27 6 (o_iload 6 8) := zS_iload (by decide +kernel) rfl
theorem zr_27_8 : zSnd 27 8 (o_const 5 9) := zS_iconst (by decide +kernel) rfl (by decide)
theorem zr_27_9 : zSnd 27 9 (o_cgt 32 12) := zS_cgt (by decide +kernel : decode (zmB 27) 9 = .ok (.if_icmp .gt 23, 3)) rfl (by decide)
theorem zr_27_12 : zSnd 27 12 (o_lload 4 14) := zS_lload (by decide +kernel) rfl
theorem zr_27_14 : zSnd 27 14 (o_aload 0 15) := zS_aload_n (i := 0) (by decide +kernel) rfl rfl
theorem zr_27_15 : zSnd 27 15 (o_iload 3 16) := zS_iload_n (i := 3) (by decide +kernel) rfl rfl
theorem zr_27_16 : zSnd 27 16 (o_iload 6 18) := zS_iload (by decide +kernel) rfl
theorem zr_27_18 : zSnd 27 18 (o_callv 5 11 3 3 1 21) := zS_callV (n := 2) (idx := 323) (by decide +kernel) rfl rfl (by decide) rfl zq_157 zq_158 zq_159 (by decide +kernel) zMk_11 (by decide +kernel) (by decide +kernel) (by decide +kernel)
theorem zr_27_21 : zSnd 27 21 (o_call 28 2 3 2 24) := zS_callS (idx := 304) (by decide +kernel) rfl zq_140 zq_141 (by decide +kernel) zMk_28 (by decide +kernel) (by decide +kernel) (by decide +kernel)
theorem zr_27_24 : zSnd 27 24 (o_lstore 4 26) := zS_lstore (by decide +kernel) rfl (by decide +kernel)
theorem zr_27_26 : zSnd 27 26 (o_iinc 6 1 29) := zS_iinc (by decide +kernel) rfl (by decide +kernel)
theorem zr_27_29 : zSnd 27 29 (o_goto 6) := zS_goto (by decide +kernel : decode (zmB 27) 29 = .ok (.goto (-23), 3)) (by decide)
theorem zr_27_32 : zSnd 27 32 (o_const 0 33) := zS_iconst (by decide +kernel) rfl (by decide)
theorem zr_27_33 : zSnd 27 33 (o_istore 6 35) := zS_istore (by decide +kernel) rfl (by decide +kernel)
theorem zr_27_35 : zSnd 27 35 (o_iload 6 37) := zS_iload (by decide +kernel) rfl
theorem zr_27_37 : zSnd 27 37 (o_aload 0 38) := zS_aload_n (i := 0) (by decide +kernel) rfl rfl
theorem zr_27_38 : zSnd 27 38 (o_getf 5 1 41) := zS_getf (idx := 20) (by decide +kernel) rfl (by decide) rfl (by decide) rfl zin_5 zq_3
theorem zr_27_41 : zSnd 27 41 (o_getf 4 4 44) := zS_getfN (idx := 186) (by decide +kernel) rfl (by decide) rfl (by decide) rfl zin_4 zq_68
theorem zr_27_44 : zSnd 27 44 (o_iload 3 45) := zS_iload_n (i := 3) (by decide +kernel) rfl rfl
theorem zr_27_45 : zSnd 27 45 (o_iald 46) := zS_iald (by decide +kernel) rfl
theorem zr_27_46 : zSnd 27 46 (o_cge 86 49) := zS_cge (by decide +kernel : decode (zmB 27) 46 = .ok (.if_icmp .ge 40, 3)) rfl (by decide)
theorem zr_27_49 : zSnd 27 49 (o_const 0 50) := zS_iconst (by decide +kernel) rfl (by decide)
theorem zr_27_50 : zSnd 27 50 (o_istore 7 52) := zS_istore (by decide +kernel) rfl (by decide +kernel)
theorem zr_27_52 : zSnd 27 52 (o_iload 7 54) := zS_iload (by decide +kernel) rfl
theorem zr_27_54 : zSnd 27 54 (o_const 4 55) := zS_iconst (by decide +kernel) rfl (by decide)
theorem zr_27_55 : zSnd 27 55 (o_cgt 80 58) := zS_cgt (by decide +kernel : decode (zmB 27) 55 = .ok (.if_icmp .gt 25, 3)) rfl (by decide)
theorem zr_27_58 : zSnd 27 58 (o_lload 4 60) := zS_lload (by decide +kernel) rfl
theorem zr_27_60 : zSnd 27 60 (o_aload 0 61) := zS_aload_n (i := 0) (by decide +kernel) rfl rfl
theorem zr_27_61 : zSnd 27 61 (o_iload 3 62) := zS_iload_n (i := 3) (by decide +kernel) rfl rfl
theorem zr_27_62 : zSnd 27 62 (o_iload 6 64) := zS_iload (by decide +kernel) rfl
theorem zr_27_64 : zSnd 27 64 (o_iload 7 66) := zS_iload (by decide +kernel) rfl
theorem zr_27_66 : zSnd 27 66 (o_callv 5 12 4 5 1 69) := zS_callV (n := 3) (idx := 326) (by decide +kernel) rfl rfl (by decide) rfl zq_160 zq_161 zq_162 (by decide +kernel) zMk_12 (by decide +kernel) (by decide +kernel) (by decide +kernel)
theorem zr_27_69 : zSnd 27 69 (o_call 28 2 3 2 72) := zS_callS (idx := 304) (by decide +kernel) rfl zq_140 zq_141 (by decide +kernel) zMk_28 (by decide +kernel) (by decide +kernel) (by decide +kernel)
theorem zr_27_72 : zSnd 27 72 (o_lstore 4 74) := zS_lstore (by decide +kernel) rfl (by decide +kernel)
theorem zr_27_74 : zSnd 27 74 (o_iinc 7 1 77) := zS_iinc (by decide +kernel) rfl (by decide +kernel)
theorem zr_27_77 : zSnd 27 77 (o_goto 52) := zS_goto (by decide +kernel : decode (zmB 27) 77 = .ok (.goto (-25), 3)) (by decide)
theorem zr_27_80 : zSnd 27 80 (o_iinc 6 1 83) := zS_iinc (by decide +kernel) rfl (by decide +kernel)
theorem zr_27_83 : zSnd 27 83 (o_goto 35) := zS_goto (by decide +kernel : decode (zmB 27) 83 = .ok (.goto (-48), 3)) (by decide)
theorem zr_27_86 : zSnd 27 86 (o_lload 4 88) := zS_lload (by decide +kernel) rfl
theorem zr_27_88 : zSnd 27 88 (o_lret) := zS_lret (by decide +kernel) (by decide +kernel)
theorem zT_27 (pc : Nat) : zSnd 27 pc (zc_27 pc) := by
  unfold zc_27
  exact (zSn_nd (zSn_nd (zSn_nd (zSn_nd (zSn_nd (zSn_lf zr_27_0) (zSn_lf zr_27_1)) (zSn_nd (zSn_lf zr_27_3) (zSn_nd (zSn_lf zr_27_4) (zSn_lf zr_27_6)))) (zSn_nd (zSn_nd (zSn_lf zr_27_8) (zSn_nd (zSn_lf zr_27_9) (zSn_lf zr_27_12))) (zSn_nd (zSn_lf zr_27_14) (zSn_nd (zSn_lf zr_27_15) (zSn_lf zr_27_16))))) (zSn_nd (zSn_nd (zSn_nd (zSn_lf zr_27_18) (zSn_lf zr_27_21)) (zSn_nd (zSn_lf zr_27_24) (zSn_nd (zSn_lf zr_27_26) (zSn_lf zr_27_29)))) (zSn_nd (zSn_nd (zSn_lf zr_27_32) (zSn_nd (zSn_lf zr_27_33) (zSn_lf zr_27_35))) (zSn_nd (zSn_lf zr_27_37) (zSn_nd (zSn_lf zr_27_38) (zSn_lf zr_27_41)))))) (zSn_nd (zSn_nd (zSn_nd (zSn_nd (zSn_lf zr_27_44) (zSn_lf zr_27_45)) (zSn_nd (zSn_lf zr_27_46) (zSn_nd (zSn_lf zr_27_49) (zSn_lf zr_27_50)))) (zSn_nd (zSn_nd (zSn_lf zr_27_52) (zSn_nd (zSn_lf zr_27_54) (zSn_lf zr_27_55))) (zSn_nd (zSn_lf zr_27_58) (zSn_nd (zSn_lf zr_27_60) (zSn_lf zr_27_61))))) (zSn_nd (zSn_nd (zSn_nd (zSn_lf zr_27_62) (zSn_lf zr_27_64)) (zSn_nd (zSn_lf zr_27_66) (zSn_nd (zSn_lf zr_27_69) (zSn_lf zr_27_72)))) (zSn_nd (zSn_nd (zSn_lf zr_27_74) (zSn_nd (zSn_lf zr_27_77) (zSn_lf zr_27_80))) (zSn_nd (zSn_lf zr_27_83) (zSn_nd (zSn_lf zr_27_86) (zSn_lf zr_27_88)))))))
theorem zr_28_0 : zSnd 28 0 (o_lconst 31 3) := zS_ldc2 (idx := 329) (by decide +kernel) rfl zq_163
theorem zr_28_3 : zSnd 28 3 (o_lload 0 4) := zS_lload_n (i := 0) (by decide +kernel) rfl rfl
theorem zr_28_4 : zSnd 28 4 (o_lmul 5) := zS_lmul (by decide +kernel) rfl
theorem zr_28_5 : zSnd 28 5 (o_iload 2 6) := zS_iload_n (i := 2) (by decide +kernel) rfl rfl
theorem zr_28_6 : zSnd 28 6 (o_i2l 7) := zS_i2l (by decide +kernel) rfl
theorem zr_28_7 : zSnd 28 7 (o_ladd 8) := zS_ladd (by decide +kernel) rfl
theorem zr_28_8 : zSnd 28 8 (o_lret) := zS_lret (by decide +kernel) (by decide +kernel)
theorem zT_28 (pc : Nat) : zSnd 28 pc (zc_28 pc) := by
  unfold zc_28
  exact (zSn_nd (zSn_nd (zSn_lf zr_28_0) (zSn_nd (zSn_lf zr_28_3) (zSn_lf zr_28_4))) (zSn_nd (zSn_nd (zSn_lf zr_28_5) (zSn_lf zr_28_6)) (zSn_nd (zSn_lf zr_28_7) (zSn_lf zr_28_8))))
theorem zr_29_0 : zSnd 29 0 (o_iload 1 1) := zS_iload_n (i := 1) (by decide +kernel) rfl rfl
theorem zr_29_1 : zSnd 29 1 (o_sw [(6, 28), (7, 43), (8, 58)] 66) := zS_tsw (n := 3) (by decide +kernel : decode (zmB 29) 1 = .ok (.tableswitch 65 6 8 #[27, 42, 57], 27)) (by decide) (by decide +kernel) (by intro x hx; simp only [zsw]; (repeat' split) <;> omega) (by decide)
theorem zr_29_28 : zSnd 29 28 (o_aload 0 29) := zS_aload_n (i := 0) (by decide +kernel) rfl rfl
theorem zr_29_29 : zSnd 29 29 (o_getf 5 1 32) := zS_getf (idx := 20) (by decide +kernel) rfl (by decide) rfl (by decide) rfl zin_5 zq_3
theorem zr_29_32 : zSnd 29 32 (o_aload 0 33) := zS_aload_n (i := 0) (by decide +kernel) rfl rfl
theorem zr_29_33 : zSnd 29 33 (o_getf 5 1 36) := zS_getf (idx := 20) (by decide +kernel) rfl (by decide) rfl (by decide) rfl zin_5 zq_3
theorem zr_29_36 : zSnd 29 36 (o_getf 4 12 39) := zS_getfN (idx := 204) (by decide +kernel) rfl (by decide) rfl (by decide) rfl zin_4 zq_79
theorem zr_29_39 : zSnd 29 39 (o_callv 4 161 2 4 1 42) := zS_callVN (n := 1) (idx := 141) (by decide +kernel) rfl rfl (by decide) rfl zq_50 zq_51 zq_52 (by decide +kernel) zMk_161 (by decide +kernel) (by decide +kernel) (by decide +kernel)
theorem zr_29_42 : zSnd 29 42 (o_iret) := zS_iret (by decide +kernel) (by decide +kernel)
theorem zr_29_43 : zSnd 29 43 (o_aload 0 44) := zS_aload_n (i := 0) (by decide +kernel) rfl rfl
theorem zr_29_44 : zSnd 29 44 (o_getf 5 1 47) := zS_getf (idx := 20) (by decide +kernel) rfl (by decide) rfl (by decide) rfl zin_5 zq_3
theorem zr_29_47 : zSnd 29 47 (o_aload 0 48) := zS_aload_n (i := 0) (by decide +kernel) rfl rfl
theorem zr_29_48 : zSnd 29 48 (o_getf 5 1 51) := zS_getf (idx := 20) (by decide +kernel) rfl (by decide) rfl (by decide) rfl zin_5 zq_3
theorem zr_29_51 : zSnd 29 51 (o_getf 4 13 54) := zS_getfN (idx := 133) (by decide +kernel) rfl (by decide) rfl (by decide) rfl zin_4 zq_46
theorem zr_29_54 : zSnd 29 54 (o_callv 4 161 2 4 1 57) := zS_callVN (n := 1) (idx := 141) (by decide +kernel) rfl rfl (by decide) rfl zq_50 zq_51 zq_52 (by decide +kernel) zMk_161 (by decide +kernel) (by decide +kernel) (by decide +kernel)
theorem zr_29_57 : zSnd 29 57 (o_iret) := zS_iret (by decide +kernel) (by decide +kernel)
theorem zr_29_58 : zSnd 29 58 (o_aload 0 59) := zS_aload_n (i := 0) (by decide +kernel) rfl rfl
theorem zr_29_59 : zSnd 29 59 (o_getf 5 1 62) := zS_getf (idx := 20) (by decide +kernel) rfl (by decide) rfl (by decide) rfl zin_5 zq_3
theorem zr_29_62 : zSnd 29 62 (o_callv 4 162 1 3 1 65) := zS_callVN (n := 0) (idx := 266) (by decide +kernel) rfl rfl (by decide) rfl zq_164 zq_165 zq_166 (by decide +kernel) zMk_162 (by decide +kernel) (by decide +kernel) (by decide +kernel)
theorem zr_29_65 : zSnd 29 65 (o_iret) := zS_iret (by decide +kernel) (by decide +kernel)
theorem zr_29_66 : zSnd 29 66 (o_aload 0 67) := zS_aload_n (i := 0) (by decide +kernel) rfl rfl
theorem zr_29_67 : zSnd 29 67 (o_getf 5 1 70) := zS_getf (idx := 20) (by decide +kernel) rfl (by decide) rfl (by decide) rfl zin_5 zq_3
theorem zr_29_70 : zSnd 29 70 (o_callv 4 166 1 5 1 73) := zS_callVN (n := 0) (idx := 331) (by decide +kernel) rfl rfl (by decide) rfl zq_167 zq_168 zq_169 (by decide +kernel) zMk_166 (by decide +kernel) (by decide +kernel) (by decide +kernel)
theorem zr_29_73 : zSnd 29 73 (o_iret) := zS_iret (by decide +kernel) (by decide +kernel)
theorem zT_29 (pc : Nat) : zSnd 29 pc (zc_29 pc) := by
  unfold zc_29
  exact (zSn_nd (zSn_nd (zSn_nd (zSn_nd (zSn_lf zr_29_0) (zSn_nd (zSn_lf zr_29_1) (zSn_lf zr_29_28))) (zSn_nd (zSn_lf zr_29_29) (zSn_nd (zSn_lf zr_29_32) (zSn_lf zr_29_33)))) (zSn_nd (zSn_nd (zSn_lf zr_29_36) (zSn_nd (zSn_lf zr_29_39) (zSn_lf zr_29_42))) (zSn_nd (zSn_lf zr_29_43) (zSn_nd (zSn_lf zr_29_44) (zSn_lf zr_29_47))))) (zSn_nd (zSn_nd (zSn_nd (zSn_lf zr_29_48) (zSn_nd (zSn_lf zr_29_51) (zSn_lf zr_29_54))) (zSn_nd (zSn_lf zr_29_57) (zSn_nd (zSn_lf zr_29_58) (zSn_lf zr_29_59)))) (zSn_nd (zSn_nd (zSn_lf zr_29_62) (zSn_nd (zSn_lf zr_29_65) (zSn_lf zr_29_66))) (zSn_nd (zSn_lf zr_29_67) (zSn_nd (zSn_lf zr_29_70) (zSn_lf zr_29_73))))))
theorem zr_30_0 : zSnd 30 0 (o_aload 0 1) := zS_aload_n (i := 0) (by decide +kernel) rfl rfl
theorem zr_30_1 : zSnd 30 1 (o_getf 5 0 4) := zS_getf (idx := 12) (by decide +kernel) rfl (by decide) rfl (by decide) rfl zin_5 zq_42
theorem zr_30_4 : zSnd 30 4 (o_iload 1 5) := zS_iload_n (i := 1) (by decide +kernel) rfl rfl
theorem zr_30_5 : zSnd 30 5 (o_callv 3 134 2 2 0 8) := zS_callVN (n := 1) (idx := 334) (by decide +kernel) rfl rfl (by decide) rfl zq_170 zq_171 zq_172 (by decide +kernel) zMk_134 (by decide +kernel) (by decide +kernel) (by decide +kernel)
theorem zr_30_8 : zSnd 30 8 (o_aload 0 9) := zS_aload_n (i := 0) (by decide +kernel) rfl rfl
theorem zr_30_9 : zSnd 30 9 (o_getf 5 0 12) := zS_getf (idx := 12) (by decide +kernel) rfl (by decide) rfl (by decide) rfl zin_5 zq_42
theorem zr_30_12 : zSnd 30 12 (o_aload 0 13) := zS_aload_n (i := 0) (by decide +kernel) rfl rfl
theorem zr_30_13 : zSnd 30 13 (o_getf 5 1 16) := zS_getf (idx := 20) (by decide +kernel) rfl (by decide) rfl (by decide) rfl zin_5 zq_3
theorem zr_30_16 : zSnd 30 16 (o_getf 4 12 19) := zS_getfN (idx := 204) (by decide +kernel) rfl (by decide) rfl (by decide) rfl zin_4 zq_79
theorem zr_30_19 : zSnd 30 19 (o_callv 3 130 2 2 0 22) := zS_callVN (n := 1) (idx := 137) (by decide +kernel) rfl rfl (by decide) rfl zq_47 zq_48 zq_49 (by decide +kernel) zMk_130 (by decide +kernel) (by decide +kernel) (by decide +kernel)
theorem zr_30_22 : zSnd 30 22 (o_aload 0 23) := zS_aload_n (i := 0) (by decide +kernel) rfl rfl
theorem zr_30_23 : zSnd 30 23 (o_getf 5 0 26) := zS_getf (idx := 12) (by decide +kernel) rfl (by decide) rfl (by decide) rfl zin_5 zq_42
theorem zr_30_26 : zSnd 30 26 (o_aload 0 27) := zS_aload_n (i := 0) (by decide +kernel) rfl rfl
theorem zr_30_27 : zSnd 30 27 (o_getf 5 1 30) := zS_getf (idx := 20) (by decide +kernel) rfl (by decide) rfl (by decide) rfl zin_5 zq_3
theorem zr_30_30 : zSnd 30 30 (o_getf 4 13 33) := zS_getfN (idx := 133) (by decide +kernel) rfl (by decide) rfl (by decide) rfl zin_4 zq_46
theorem zr_30_33 : zSnd 30 33 (o_callv 3 130 2 2 0 36) := zS_callVN (n := 1) (idx := 137) (by decide +kernel) rfl rfl (by decide) rfl zq_47 zq_48 zq_49 (by decide +kernel) zMk_130 (by decide +kernel) (by decide +kernel) (by decide +kernel)
theorem zr_30_36 : zSnd 30 36 (o_aload 0 37) := zS_aload_n (i := 0) (by decide +kernel) rfl rfl
theorem zr_30_37 : zSnd 30 37 (o_getf 5 1 40) := zS_getf (idx := 20) (by decide +kernel) rfl (by decide) rfl (by decide) rfl zin_5 zq_3
theorem zr_30_40 : zSnd 30 40 (o_const 1 41) := zS_iconst (by decide +kernel) rfl (by decide)
theorem zr_30_41 : zSnd 30 41 (o_putz 4 11 44) := zS_putzN (idx := 124) (by decide +kernel) rfl (by decide) rfl (by decide) rfl zin_4 tyX3_ok nmX3 rfl (by decide +kernel) zq_41
theorem zr_30_44 : zSnd 30 44 (o_aload 0 45) := zS_aload_n (i := 0) (by decide +kernel) rfl rfl
theorem zr_30_45 : zSnd 30 45 (o_getf 5 1 48) := zS_getf (idx := 20) (by decide +kernel) rfl (by decide) rfl (by decide) rfl zin_5 zq_3
theorem zr_30_48 : zSnd 30 48 (o_aload 0 49) := zS_aload_n (i := 0) (by decide +kernel) rfl rfl
theorem zr_30_49 : zSnd 30 49 (o_getf 5 1 52) := zS_getf (idx := 20) (by decide +kernel) rfl (by decide) rfl (by decide) rfl zin_5 zq_3
theorem zr_30_52 : zSnd 30 52 (o_getf 4 13 55) := zS_getfN (idx := 133) (by decide +kernel) rfl (by decide) rfl (by decide) rfl zin_4 zq_46
theorem zr_30_55 : zSnd 30 55 (o_callv 4 161 2 4 1 58) := zS_callVN (n := 1) (idx := 141) (by decide +kernel) rfl rfl (by decide) rfl zq_50 zq_51 zq_52 (by decide +kernel) zMk_161 (by decide +kernel) (by decide +kernel) (by decide +kernel)
theorem zr_30_58 : zSnd 30 58 (o_iret) := zS_iret (by decide +kernel) (by decide +kernel)
theorem zT_30 (pc : Nat) : zSnd 30 pc (zc_30 pc) := by
  unfold zc_30
  exact (zSn_nd (zSn_nd (zSn_nd (zSn_nd (zSn_lf zr_30_0) (zSn_nd (zSn_lf zr_30_1) (zSn_lf zr_30_4))) (zSn_nd (zSn_lf zr_30_5) (zSn_nd (zSn_lf zr_30_8) (zSn_lf zr_30_9)))) (zSn_nd (zSn_nd (zSn_lf zr_30_12) (zSn_nd (zSn_lf zr_30_13) (zSn_lf zr_30_16))) (zSn_nd (zSn_nd (zSn_lf zr_30_19) (zSn_lf zr_30_22)) (zSn_nd (zSn_lf zr_30_23) (zSn_lf zr_30_26))))) (zSn_nd (zSn_nd (zSn_nd (zSn_lf zr_30_27) (zSn_nd (zSn_lf zr_30_30) (zSn_lf zr_30_33))) (zSn_nd (zSn_nd (zSn_lf zr_30_36) (zSn_lf zr_30_37)) (zSn_nd (zSn_lf zr_30_40) (zSn_lf zr_30_41)))) (zSn_nd (zSn_nd (zSn_lf zr_30_44) (zSn_nd (zSn_lf zr_30_45) (zSn_lf zr_30_48))) (zSn_nd (zSn_nd (zSn_lf zr_30_49) (zSn_lf zr_30_52)) (zSn_nd (zSn_lf zr_30_55) (zSn_lf zr_30_58))))))
theorem zr_31_0 : zSnd 31 0 (o_aload 0 1) := zS_aload_n (i := 0) (by decide +kernel) rfl rfl
theorem zr_31_1 : zSnd 31 1 (o_getf 5 1 4) := zS_getf (idx := 20) (by decide +kernel) rfl (by decide) rfl (by decide) rfl zin_5 zq_3
theorem zr_31_4 : zSnd 31 4 (o_getf 4 6 7) := zS_getfN (idx := 179) (by decide +kernel) rfl (by decide) rfl (by decide) rfl zin_4 zq_67
theorem zr_31_7 : zSnd 31 7 (o_iload 1 8) := zS_iload_n (i := 1) (by decide +kernel) rfl rfl
theorem zr_31_8 : zSnd 31 8 (o_iald 9) := zS_iald (by decide +kernel) rfl
theorem zr_31_9 : zSnd 31 9 (o_const 1 10) := zS_iconst (by decide +kernel) rfl (by decide)
theorem zr_31_10 : zSnd 31 10 (o_cgt 22 13) := zS_cgt (by decide +kernel : decode (zmB 31) 10 = .ok (.if_icmp .gt 12, 3)) rfl (by decide)
theorem zr_31_13 : zSnd 31 13 (o_aload 0 14) := zS_aload_n (i := 0) (by decide +kernel) rfl rfl
theorem zr_31_14 : zSnd 31 14 (o_getf 5 0 17) := zS_getf (idx := 12) (by decide +kernel) rfl (by decide) rfl (by decide) rfl zin_5 zq_42
theorem zr_31_17 : zSnd 31 17 (o_iload 2 18) := zS_iload_n (i := 2) (by decide +kernel) rfl rfl
theorem zr_31_18 : zSnd 31 18 (o_callv 3 132 2 2 1 21) := zS_callVN (n := 1) (idx := 245) (by decide +kernel) rfl rfl (by decide) rfl zq_102 zq_103 zq_104 (by decide +kernel) zMk_132 (by decide +kernel) (by decide +kernel) (by decide +kernel)
theorem zr_31_21 : zSnd 31 21 (o_iret) := zS_iret (by decide +kernel) (by decide +kernel)
theorem zr_31_22 : zSnd 31 22 (o_aload 0 23) := zS_aload_n (i := 0) (by decide +kernel) rfl rfl
theorem zr_31_23 : zSnd 31 23 (o_getf 5 1 26) := zS_getf (idx := 20) (by decide +kernel) rfl (by decide) rfl (by decide) rfl zin_5 zq_3
theorem zr_31_26 : zSnd 31 26 (o_getf 4 6 29) := zS_getfN (idx := 179) (by decide +kernel) rfl (by decide) rfl (by decide) rfl zin_4 zq_67
theorem zr_31_29 : zSnd 31 29 (o_iload 1 30) := zS_iload_n (i := 1) (by decide +kernel) rfl rfl
theorem zr_31_30 : zSnd 31 30 (o_dup2 31) := zS_dup2 (by decide +kernel) rfl
theorem zr_31_31 : zSnd 31 31 (o_iald 32) := zS_iald (by decide +kernel) rfl
theorem zr_31_32 : zSnd 31 32 (o_const 1 33) := zS_iconst (by decide +kernel) rfl (by decide)
theorem zr_31_33 : zSnd 31 33 (o_isub 34) := zS_isub (by decide +kernel) rfl
theorem zr_31_34 : zSnd 31 34 (o_iast 35) := zS_iast (by decide +kernel) rfl
theorem zr_31_35 : zSnd 31 35 (o_aload 0 36) := zS_aload_n (i := 0) (by decide +kernel) rfl rfl
theorem zr_31_36 : zSnd 31 36 (o_getf 5 0 39) := zS_getf (idx := 12) (by decide +kernel) rfl (by decide) rfl (by decide) rfl zin_5 zq_42
theorem zr_31_39 : zSnd 31 39 (o_iload 2 40) := zS_iload_n (i := 2) (by decide +kernel) rfl rfl
theorem zr_31_40 : zSnd 31 40 (o_callv 3 132 2 2 1 43) := zS_callVN (n := 1) (idx := 245) (by decide +kernel) rfl rfl (by decide) rfl zq_102 zq_103 zq_104 (by decide +kernel) zMk_132 (by decide +kernel) (by decide +kernel) (by decide +kernel)
theorem zr_31_43 : zSnd 31 43 (o_istore 3 44) := zS_istore_n (i := 3) (by decide +kernel) rfl rfl (by decide +kernel)
theorem zr_31_44 : zSnd 31 44 (o_aload 0 45) := zS_aload_n (i := 0) (by decide +kernel) rfl rfl
theorem zr_31_45 : zSnd 31 45 (o_getf 5 1 48) := zS_getf (idx := 20) (by decide +kernel) rfl (by decide) rfl (by decide) rfl zin_5 zq_3
theorem zr_31_48 : zSnd 31 48 (o_getf 4 6 51) := zS_getfN (idx := 179) (by decide +kernel) rfl (by decide) rfl (by decide) rfl zin_4 zq_67
theorem zr_31_51 : zSnd 31 51 (o_iload 1 52) := zS_iload_n (i := 1) (by decide +kernel) rfl rfl
theorem zr_31_52 : zSnd 31 52 (o_dup2 53) := zS_dup2 (by decide +kernel) rfl
theorem zr_31_53 : zSnd 31 53 (o_iald 54) := zS_iald (by decide +kernel) rfl
theorem zr_31_54 : zSnd 31 54 (o_const 1 55) := zS_iconst (by decide +kernel) rfl (by decide)
theorem zr_31_55 : zSnd 31 55 (o_iadd 56) := zS_iadd (by decide +kernel) rfl
theorem zr_31_56 : zSnd 31 56 (o_iast 57) := zS_iast (by decide +kernel) rfl
theorem zr_31_57 : zSnd 31 57 (o_iload 3 58) := zS_iload_n (i := 3) (by decide +kernel) rfl rfl
theorem zr_31_58 : zSnd 31 58 (o_iret) := zS_iret (by decide +kernel) (by decide +kernel)
theorem zT_31 (pc : Nat) : zSnd 31 pc (zc_31 pc) := by
  unfold zc_31
  exact (zSn_nd (zSn_nd (zSn_nd (zSn_nd (zSn_nd (zSn_lf zr_31_0) (zSn_lf zr_31_1)) (zSn_nd (zSn_lf zr_31_4) (zSn_lf zr_31_7))) (zSn_nd (zSn_nd (zSn_lf zr_31_8) (zSn_lf zr_31_9)) (zSn_nd (zSn_lf zr_31_10) (zSn_nd (zSn_lf zr_31_13) (zSn_lf zr_31_14))))) (zSn_nd (zSn_nd (zSn_nd (zSn_lf zr_31_17) (zSn_lf zr_31_18)) (zSn_nd (zSn_lf zr_31_21) (zSn_lf zr_31_22))) (zSn_nd (zSn_nd (zSn_lf zr_31_23) (zSn_lf zr_31_26)) (zSn_nd (zSn_lf zr_31_29) (zSn_nd (zSn_lf zr_31_30) (zSn_lf zr_31_31)))))) (zSn_nd (zSn_nd (zSn_nd (zSn_nd (zSn_lf zr_31_32) (zSn_lf zr_31_33)) (zSn_nd (zSn_lf zr_31_34) (zSn_lf zr_31_35))) (zSn_nd (zSn_nd (zSn_lf zr_31_36) (zSn_lf zr_31_39)) (zSn_nd (zSn_lf zr_31_40) (zSn_nd (zSn_lf zr_31_43) (zSn_lf zr_31_44))))) (zSn_nd (zSn_nd (zSn_nd (zSn_lf zr_31_45) (zSn_lf zr_31_48)) (zSn_nd (zSn_lf zr_31_51) (zSn_nd (zSn_lf zr_31_52) (zSn_lf zr_31_53)))) (zSn_nd (zSn_nd (zSn_lf zr_31_54) (zSn_lf zr_31_55)) (zSn_nd (zSn_lf zr_31_56) (zSn_nd (zSn_lf zr_31_57) (zSn_lf zr_31_58)))))))
theorem zr_32_0 : zSnd 32 0 (o_aload 0 1) := zS_aload_n (i := 0) (by decide +kernel) rfl rfl
theorem zr_32_1 : zSnd 32 1 (o_getf 5 3 4) := zS_getf (idx := 31) (by decide +kernel) rfl (by decide) rfl (by decide) rfl zin_5 zq_120
theorem zr_32_4 : zSnd 32 4 (o_getf 2 5 7) := zS_getfN (idx := 337) (by decide +kernel) rfl (by decide) rfl (by decide) rfl zin_2 zq_173
theorem zr_32_7 : zSnd 32 7 (o_istore 1 8) := zS_istore_n (i := 1) (by decide +kernel) rfl rfl (by decide +kernel)
theorem zr_32_8 : zSnd 32 8 (o_aload 0 9) := zS_aload_n (i := 0) (by decide +kernel) rfl rfl
theorem zr_32_9 : zSnd 32 9 (o_getf 5 3 12) := zS_getf (idx := 31) (by decide +kernel) rfl (by decide) rfl (by decide) rfl zin_5 zq_120
theorem zr_32_12 : zSnd 32 12 (o_getf 2 6 15) := zS_getfN (idx := 340) (by decide +kernel) rfl (by decide) rfl (by decide) rfl zin_2 zq_174
theorem zr_32_15 : zSnd 32 15 (o_istore 2 16) := zS_istore_n (i := 2) (by decide +kernel) rfl rfl (by decide +kernel)
theorem zr_32_16 : zSnd 32 16 (o_aload 0 17) := zS_aload_n (i := 0) (by decide +kernel) rfl rfl
theorem zr_32_17 : zSnd 32 17 (o_getf 5 3 20) := zS_getf (idx := 31) (by decide +kernel) rfl (by decide) rfl (by decide) rfl zin_5 zq_120
theorem zr_32_20 : zSnd 32 20 (o_getf 2 7 23) := zS_getfN (idx := 343) (by decide +kernel) rfl (by decide) rfl (by decide) rfl zin_2 zq_175
theorem zr_32_23 : zSnd 32 23 (o_istore 3 24) := zS_istore_n (i := 3) (by decide +kernel) rfl rfl (by decide +kernel)
theorem zr_32_24 : zSnd 32 24 (o_aload 0 25) := zS_aload_n (i := 0) (by decide +kernel) rfl rfl
theorem zr_32_25 : zSnd 32 25 (o_getf 5 3 28) := zS_getf (idx := 31) (by decide +kernel) rfl (by decide) rfl (by decide) rfl zin_5 zq_120
theorem zr_32_28 : zSnd 32 28 (o_getf 2 4 31) := zS_getfN (idx := 346) (by decide +kernel) rfl (by decide) rfl (by decide) rfl zin_2 zq_176
theorem zr_32_31 : zSnd 32 31 (o_sw [(100, 136), (106, 64), (111, 88)] 172) := zS_lsw (by decide +kernel : decode (zmB 32) 31 = .ok (.lookupswitch 141 #[(100, 105), (106, 33), (111, 57)], 33)) (by decide) (by intro x; simp only [Op.lookupswitch.offset_cons, Op.lookupswitch.offset_nil, zsw]; (repeat' split) <;> omega)
theorem zr_32_64 : zSnd 32 64 (o_aload 0 65) := zS_aload_n (i := 0) (by decide +kernel) rfl rfl
theorem zr_32_65 : zSnd 32 65 (o_getf 5 1 68) := zS_getf (idx := 20) (by decide +kernel) rfl (by decide) rfl (by decide) rfl zin_5 zq_3
theorem zr_32_68 : zSnd 32 68 (o_callv 4 150 1 1 1 71) := zS_callVN (n := 0) (idx := 62) (by decide +kernel) rfl rfl (by decide) rfl zq_11 zq_12 zq_13 (by decide +kernel) zMk_150 (by decide +kernel) (by decide +kernel) (by decide +kernel)
theorem zr_32_71 : zSnd 32 71 (o_ifne 76 74) := zS_ifne (by decide +kernel : decode (zmB 32) 71 = .ok (.ifCond .ne 5, 3)) rfl (by decide)
theorem zr_32_74 : zSnd 32 74 (o_const 0 75) := zS_iconst (by decide +kernel) rfl (by decide)
theorem zr_32_75 : zSnd 32 75 (o_zret) := zS_zret (by decide +kernel) (by decide +kernel)
theorem zr_32_76 : zSnd 32 76 (o_aload 0 77) := zS_aload_n (i := 0) (by decide +kernel) rfl rfl
theorem zr_32_77 : zSnd 32 77 (o_getf 5 1 80) := zS_getf (idx := 20) (by decide +kernel) rfl (by decide) rfl (by decide) rfl zin_5 zq_3
theorem zr_32_80 : zSnd 32 80 (o_iload 1 81) := zS_iload_n (i := 1) (by decide +kernel) rfl rfl
theorem zr_32_81 : zSnd 32 81 (o_iload 2 82) := zS_iload_n (i := 2) (by decide +kernel) rfl rfl
theorem zr_32_82 : zSnd 32 82 (o_callv 4 153 3 3 1 85) := zS_callVN (n := 2) (idx := 71) (by decide +kernel) rfl rfl (by decide) rfl zq_14 zq_15 zq_16 (by decide +kernel) zMk_153 (by decide +kernel) (by decide +kernel) (by decide +kernel)
theorem zr_32_85 : zSnd 32 85 (o_pop 86) := zS_pop (by decide +kernel) rfl
theorem zr_32_86 : zSnd 32 86 (o_const 1 87) := zS_iconst (by decide +kernel) rfl (by decide)
theorem zr_32_87 : zSnd 32 87 (o_zret) := zS_zret (by decide +kernel) (by decide +kernel)
theorem zr_32_88 : zSnd 32 88 (o_aload 0 89) := zS_aload_n (i := 0) (by decide +kernel) rfl rfl
theorem zr_32_89 : zSnd 32 89 (o_getf 5 1 92) := zS_getf (idx := 20) (by decide +kernel) rfl (by decide) rfl (by decide) rfl zin_5 zq_3
theorem zr_32_92 : zSnd 32 92 (o_iload 1 93) := zS_iload_n (i := 1) (by decide +kernel) rfl rfl
theorem zr_32_93 : zSnd 32 93 (o_callv 4 147 2 2 1 96) := zS_callVN (n := 1) (idx := 75) (by decide +kernel) rfl rfl (by decide) rfl zq_17 zq_18 zq_19 (by decide +kernel) zMk_147 (by decide +kernel) (by decide +kernel) (by decide +kernel)
theorem zr_32_96 : zSnd 32 96 (o_ifeq 121 99) := zS_ifeq (by decide +kernel : decode (zmB 32) 96 = .ok (.ifCond .eq 25, 3)) rfl (by decide)
theorem zr_32_99 : zSnd 32 99 (o_aload 0 100) := zS_aload_n (i := 0) (by decide +kernel) rfl rfl
theorem zr_32_100 : zSnd 32 100 (o_getf 5 1 103) := zS_getf (idx := 20) (by decide +kernel) rfl (by decide) rfl (by decide) rfl zin_5 zq_3
theorem zr_32_103 : zSnd 32 103 (o_iload 2 104) := zS_iload_n (i := 2) (by decide +kernel) rfl rfl
theorem zr_32_104 : zSnd 32 104 (o_callv 4 146 2 2 1 107) := zS_callVN (n := 1) (idx := 79) (by decide +kernel) rfl rfl (by decide) rfl zq_20 zq_21 zq_22 (by decide +kernel) zMk_146 (by decide +kernel) (by decide +kernel) (by decide +kernel)
theorem zr_32_107 : zSnd 32 107 (o_ifeq 121 110) := zS_ifeq (by decide +kernel : decode (zmB 32) 107 = .ok (.ifCond .eq 14, 3)) rfl (by decide)
theorem zr_32_110 : zSnd 32 110 (o_aload 0 111) := zS_aload_n (i := 0) (by decide +kernel) rfl rfl
theorem zr_32_111 : zSnd 32 111 (o_getf 5 1 114) := zS_getf (idx := 20) (by decide +kernel) rfl (by decide) rfl (by decide) rfl zin_5 zq_3
theorem zr_32_114 : zSnd 32 114 (o_iload 1 115) := zS_iload_n (i := 1) (by decide +kernel) rfl rfl
theorem zr_32_115 : zSnd 32 115 (o_callv 4 151 2 2 1 118) := zS_callVN (n := 1) (idx := 89) (by decide +kernel) rfl rfl (by decide) rfl zq_23 zq_24 zq_25 (by decide +kernel) zMk_151 (by decide +kernel) (by decide +kernel) (by decide +kernel)
theorem zr_32_118 : zSnd 32 118 (o_ifne 123 121) := zS_ifne (by decide +kernel : decode (zmB 32) 118 = .ok (.ifCond .ne 5, 3)) rfl (by decide)
theorem zr_32_121 : zSnd 32 121 (o_const 0 122) := zS_iconst (by decide +kernel) rfl (by decide)
theorem zr_32_122 : zSnd 32 122 (o_zret) := zS_zret (by decide +kernel) (by decide +kernel)
theorem zr_32_123 : zSnd 32 123 (o_aload 0 124) := zS_aload_n (i := 0) (by decide +kernel) rfl rfl
theorem zr_32_124 : zSnd 32 124 (o_getf 5 1 127) := zS_getf (idx := 20) (by decide +kernel) rfl (by decide) rfl (by decide) rfl zin_5 zq_3
theorem zr_32_127 : zSnd 32 127 (o_iload 1 128) := zS_iload_n (i := 1) (by decide +kernel) rfl rfl
theorem zr_32_128 : zSnd 32 128 (o_iload 2 129) := zS_iload_n (i := 2) (by decide +kernel) rfl rfl
theorem zr_32_129 : zSnd 32 129 (o_iload 3 130) := zS_iload_n (i := 3) (by decide +kernel) rfl rfl
theorem zr_32_130 : zSnd 32 130 (o_callv 4 154 4 5 1 133) := zS_callVN (n := 3) (idx := 94) (by decide +kernel) rfl rfl (by decide) rfl zq_26 zq_27 zq_28 (by decide +kernel) zMk_154 (by decide +kernel) (by decide +kernel) (by decide +kernel)
theorem zr_32_133 : zSnd 32 133 (o_pop 134) := zS_pop (by decide +kernel) rfl
theorem zr_32_134 : zSnd 32 134 (o_const 1 135) := zS_iconst (by decide +kernel) rfl (by decide)
theorem zr_32_135 : zSnd 32 135 (o_zret) := zS_zret (by decide +kernel) (by decide +kernel)
theorem zr_32_136 : zSnd 32 136 (o_aload 0 137) := zS_aload_n (i := 0) (by decide +kernel) rfl rfl
theorem zr_32_137 : zSnd 32 137 (o_getf 5 1 140) := zS_getf (idx := 20) (by decide +kernel) rfl (by decide) rfl (by decide) rfl zin_5 zq_3
theorem zr_32_140 : zSnd 32 140 (o_iload 1 141) := zS_iload_n (i := 1) (by decide +kernel) rfl rfl
theorem zr_32_141 : zSnd 32 141 (o_callv 4 146 2 2 1 144) := zS_callVN (n := 1) (idx := 79) (by decide +kernel) rfl rfl (by decide) rfl zq_20 zq_21 zq_22 (by decide +kernel) zMk_146 (by decide +kernel) (by decide +kernel) (by decide +kernel)
theorem zr_32_144 : zSnd 32 144 (o_ifeq 157 147) := zS_ifeq (by decide +kernel : decode (zmB 32) 144 = .ok (.ifCond .eq 13, 3)) rfl (by decide)
theorem zr_32_147 : zSnd 32 147 (o_aload 0 148) := zS_aload_n (i := 0) (by decide +kernel) rfl rfl
theorem zr_32_148 : zSnd 32 148 (o_getf 5 1 151) := zS_getf (idx := 20) (by decide +kernel) rfl (by decide) rfl (by decide) rfl zin_5 zq_3
theorem zr_32_151 : zSnd 32 151 (o_callv 4 152 1 1 1 154) := zS_callVN (n := 0) (idx := 102) (by decide +kernel) rfl rfl (by decide) rfl zq_29 zq_30 zq_31 (by decide +kernel) zMk_152 (by decide +kernel) (by decide +kernel) (by decide +kernel)
theorem zr_32_154 : zSnd 32 154 (o_ifne 159 157) := zS_ifne (by decide +kernel : decode (zmB 32) 154 = .ok (.ifCond .ne 5, 3)) rfl (by decide)
theorem zr_32_157 : zSnd 32 157 (o_const 0 158) := zS_iconst (by decide +kernel) rfl (by decide)
theorem zr_32_158 : zSnd 32 158 (o_zret) := zS_zret (by decide +kernel) (by decide +kernel)
theorem zr_32_159 : zSnd 32 159 (o_aload 0 160) := zS_aload_n (i := 0) (by decide +kernel) rfl rfl
theorem zr_32_160 : zSnd 32 160 (o_getf 5 1 163) := zS_getf (idx := 20) (by decide +kernel) rfl (by decide) rfl (by decide) rfl zin_5 zq_3
theorem zr_32_163 : zSnd 32 163 (o_iload 1 164) := zS_iload_n (i := 1) (by decide +kernel) rfl rfl
theorem zr_32_164 : zSnd 32 164 (o_iload 2 165) := zS_iload_n (i := 2) (by decide +kernel) rfl rfl
theorem zr_32_165 : zSnd 32 165 (o_iload 3 166) := zS_iload_n (i := 3) (by decide +kernel) rfl rfl
theorem zr_32_166 : zSnd 32 166 (o_callv 4 155 4 4 1 169) := zS_callVN (n := 3) (idx := 107) (by decide +kernel) rfl rfl (by decide) rfl zq_32 zq_33 zq_34 (by decide +kernel) zMk_155 (by decide +kernel) (by decide +kernel) (by decide +kernel)
theorem zr_32_169 : zSnd 32 169 (o_pop 170) := zS_pop (by decide +kernel) rfl
theorem zr_32_170 : zSnd 32 170 (o_const 1 171) := zS_iconst (by decide +kernel) rfl (by decide)
theorem zr_32_171 : zSnd 32 171 (o_zret) := zS_zret (by decide +kernel) (by decide +kernel)
theorem zr_32_172 : zSnd 32 172 (o_aload 0 173) := zS_aload_n (i := 0) (by decide +kernel) rfl rfl
theorem zr_32_173 : zSnd 32 173 (o_iload 1 174) := zS_iload_n (i := 1) (by decide +kernel) rfl rfl
theorem zr_32_174 : zSnd 32 174 (o_callv 5 30 2 2 1 177) := zS_callV (n := 1) (idx := 120) (by decide +kernel) rfl rfl (by decide) rfl zq_38 zq_39 zq_40 (by decide +kernel) zMk_30 (by decide +kernel) (by decide +kernel) (by decide +kernel)
theorem zr_32_177 : zSnd 32 177 (o_pop 178) := zS_pop (by decide +kernel) rfl
theorem zr_32_178 : zSnd 32 178 (o_const 1 179) := zS_iconst (by decide +kernel) rfl (by decide)
theorem zr_32_179 : zSnd 32 179 (o_zret) := zS_zret (by decide +kernel) (by decide +kernel)
theorem zT_32 (pc : Nat) : zSnd 32 pc (zc_32 pc) := by
  unfold zc_32
  exact (zSn_nd (zSn_nd (zSn_nd (zSn_nd (zSn_nd (zSn_nd (zSn_lf zr_32_0) (zSn_lf zr_32_1)) (zSn_nd (zSn_lf zr_32_4) (zSn_nd (zSn_lf zr_32_7) (zSn_lf zr_32_8)))) (zSn_nd (zSn_nd (zSn_lf zr_32_9) (zSn_lf zr_32_12)) (zSn_nd (zSn_lf zr_32_15) (zSn_nd (zSn_lf zr_32_16) (zSn_lf zr_32_17))))) (zSn_nd (zSn_nd (zSn_nd (zSn_lf zr_32_20) (zSn_lf zr_32_23)) (zSn_nd (zSn_lf zr_32_24) (zSn_nd (zSn_lf zr_32_25) (zSn_lf zr_32_28)))) (zSn_nd (zSn_nd (zSn_lf zr_32_31) (zSn_lf zr_32_64)) (zSn_nd (zSn_lf zr_32_65) (zSn_nd (zSn_lf zr_32_68) (zSn_lf zr_32_71)))))) (zSn_nd (zSn_nd (zSn_nd (zSn_nd (zSn_lf zr_32_74) (zSn_lf zr_32_75)) (zSn_nd (zSn_lf zr_32_76) (zSn_nd (zSn_lf zr_32_77) (zSn_lf zr_32_80)))) (zSn_nd (zSn_nd (zSn_lf zr_32_81) (zSn_lf zr_32_82)) (zSn_nd (zSn_lf zr_32_85) (zSn_nd (zSn_lf zr_32_86) (zSn_lf zr_32_87))))) (zSn_nd (zSn_nd (zSn_nd (zSn_lf zr_32_88) (zSn_lf zr_32_89)) (zSn_nd (zSn_lf zr_32_92) (zSn_nd (zSn_lf zr_32_93) (zSn_lf zr_32_96)))) (zSn_nd (zSn_nd (zSn_lf zr_32_99) (zSn_nd (zSn_lf zr_32_100) (zSn_lf zr_32_103))) (zSn_nd (zSn_lf zr_32_104) (zSn_nd (zSn_lf zr_32_107) (zSn_lf zr_32_110))))))) (zSn_nd (zSn_nd (zSn_nd (zSn_nd (zSn_nd (zSn_lf zr_32_111) (zSn_lf zr_32_114)) (zSn_nd (zSn_lf zr_32_115) (zSn_nd (zSn_lf zr_32_118) (zSn_lf zr_32_121)))) (zSn_nd (zSn_nd (zSn_lf zr_32_122) (zSn_lf zr_32_123)) (zSn_nd (zSn_lf zr_32_124) (zSn_nd (zSn_lf zr_32_127) (zSn_lf zr_32_128))))) (zSn_nd (zSn_nd (zSn_nd (zSn_lf zr_32_129) (zSn_lf zr_32_130)) (zSn_nd (zSn_lf zr_32_133) (zSn_nd (zSn_lf zr_32_134) (zSn_lf zr_32_135)))) (zSn_nd (zSn_nd (zSn_lf zr_32_136) (zSn_lf zr_32_137)) (zSn_nd (zSn_lf zr_32_140) (zSn_nd (zSn_lf zr_32_141) (zSn_lf zr_32_144)))))) (zSn_nd (zSn_nd (zSn_nd (zSn_nd (zSn_lf zr_32_147) (zSn_lf zr_32_148)) (zSn_nd (zSn_lf zr_32_151) (zSn_nd (zSn_lf zr_32_154) (zSn_lf zr_32_157)))) (zSn_nd (zSn_nd (zSn_lf zr_32_158) (zSn_lf zr_32_159)) (zSn_nd (zSn_lf zr_32_160) (zSn_nd (zSn_lf zr_32_163) (zSn_lf zr_32_164))))) (zSn_nd (zSn_nd (zSn_nd (zSn_lf zr_32_165) (zSn_lf zr_32_166)) (zSn_nd (zSn_lf zr_32_169) (zSn_nd (zSn_lf zr_32_170) (zSn_lf zr_32_171)))) (zSn_nd (zSn_nd (zSn_lf zr_32_172) (zSn_nd (zSn_lf zr_32_173) (zSn_lf zr_32_174))) (zSn_nd (zSn_lf zr_32_177) (zSn_nd (zSn_lf zr_32_178) (zSn_lf zr_32_179))))))))
theorem zr_33_0 : zSnd 33 0 (o_iload 1 1) := zS_iload_n (i := 1) (by decide +kernel) rfl rfl
theorem zr_33_1 : zSnd 33 1 (o_iload 0 2) := zS_iload_n (i := 0) (by decide +kernel) rfl rfl
theorem zr_33_2 : zSnd 33 2 (o_cgt 14 5) := zS_cgt (by decide +kernel : decode (zmB 33) 2 = .ok (.if_icmp .gt 12, 3)) rfl (by decide)
theorem zr_33_5 : zSnd 33 5 (o_iload 0 6) := zS_iload_n (i := 0) (by decide +kernel) rfl rfl
theorem zr_33_6 : zSnd 33 6 (o_iload 2 7) := zS_iload_n (i := 2) (by decide +kernel) rfl rfl
theorem zr_33_7 : zSnd 33 7 (o_cgt 14 10) := zS_cgt (by decide +kernel : decode (zmB 33) 7 = .ok (.if_icmp .gt 7, 3)) rfl (by decide)
theorem zr_33_10 : zSnd 33 10 (o_const 1 11) := zS_iconst (by decide +kernel) rfl (by decide)
theorem zr_33_11 : zSnd 33 11 (o_goto 15) := zS_goto (by decide +kernel : decode (zmB 33) 11 = .ok (.goto 4, 3)) (by decide)
theorem zr_33_14 : zSnd 33 14 (o_const 0 15) := zS_iconst (by decide +kernel) rfl (by decide)
theorem zr_33_15 : zSnd 33 15 (o_zret) := zS_zret (by decide +kernel) (by decide +kernel)
theorem zT_33 (pc : Nat) : zSnd 33 pc (zc_33 pc) := by
  unfold zc_33
  exact (zSn_nd (zSn_nd (zSn_nd (zSn_lf zr_33_0) (zSn_lf zr_33_1)) (zSn_nd (zSn_lf zr_33_2) (zSn_nd (zSn_lf zr_33_5) (zSn_lf zr_33_6)))) (zSn_nd (zSn_nd (zSn_lf zr_33_7) (zSn_lf zr_33_10)) (zSn_nd (zSn_lf zr_33_11) (zSn_nd (zSn_lf zr_33_14) (zSn_lf zr_33_15)))))
theorem zr_34_0 : zSnd 34 0 (o_iload 0 1) := zS_iload_n (i := 0) (by decide +kernel) rfl rfl
theorem zr_34_1 : zSnd 34 1 (o_const 0 2) := zS_iconst (by decide +kernel) rfl (by decide)
theorem zr_34_2 : zSnd 34 2 (o_const 3 3) := zS_iconst (by decide +kernel) rfl (by decide)
theorem zr_34_3 : zSnd 34 3 (o_call 33 3 3 1 6) := zS_callS (idx := 35) (by decide +kernel) rfl zq_0 zq_1 (by decide +kernel) zMk_33 (by decide +kernel) (by decide +kernel) (by decide +kernel)
theorem zr_34_6 : zSnd 34 6 (o_zret) := zS_zret (by decide +kernel) (by decide +kernel)
theorem zT_34 (pc : Nat) : zSnd 34 pc (zc_34 pc) := by
  unfold zc_34
  exact (zSn_nd (zSn_nd (zSn_lf zr_34_0) (zSn_lf zr_34_1)) (zSn_nd (zSn_lf zr_34_2) (zSn_nd (zSn_lf zr_34_3) (zSn_lf zr_34_6))))
theorem zr_35_0 : zSnd 35 0 (o_const 5 1) := zS_iconst (by decide +kernel) rfl (by decide)
theorem zr_35_1 : zSnd 35 1 (o_iload 0 2) := zS_iload_n (i := 0) (by decide +kernel) rfl rfl
theorem zr_35_2 : zSnd 35 2 (o_imul 3) := zS_imul (by decide +kernel) rfl
theorem zr_35_3 : zSnd 35 3 (o_iload 1 4) := zS_iload_n (i := 1) (by decide +kernel) rfl rfl
theorem zr_35_4 : zSnd 35 4 (o_iadd 5) := zS_iadd (by decide +kernel) rfl
theorem zr_35_5 : zSnd 35 5 (o_iret) := zS_iret (by decide +kernel) (by decide +kernel)
theorem zT_35 (pc : Nat) : zSnd 35 pc (zc_35 pc) := by
  unfold zc_35
  exact (zSn_nd (zSn_nd (zSn_lf zr_35_0) (zSn_nd (zSn_lf zr_35_1) (zSn_lf zr_35_2))) (zSn_nd (zSn_lf zr_35_3) (zSn_nd (zSn_lf zr_35_4) (zSn_lf zr_35_5))))
theorem zr_36_0 : zSnd 36 0 (o_aload 0 1) := zS_aload_n (i := 0) (by decide +kernel) rfl rfl
theorem zr_36_1 : zSnd 36 1 (o_getf 6 0 4) := zS_getf (idx := 22) (by decide +kernel) rfl (by decide) rfl (by decide) rfl zin_6 zq_177
theorem zr_36_4 : zSnd 36 4 (o_iret) := zS_iret (by decide +kernel) (by decide +kernel)
theorem zT_36 (pc : Nat) : zSnd 36 pc (zc_36 pc) := by
  unfold zc_36
  exact (zSn_nd (zSn_lf zr_36_0) (zSn_nd (zSn_lf zr_36_1) (zSn_lf zr_36_4)))
theorem zr_37_0 : zSnd 37 0 (o_const 0 1) := zS_iconst (by decide +kernel) rfl (by decide)
theorem zr_37_1 : zSnd 37 1 (o_istore 4 3) := zS_istore (by decide +kernel) rfl (by decide +kernel)
theorem zr_37_3 : zSnd 37 3 (o_iload 4 5) := zS_iload (by decide +kernel) rfl
theorem zr_37_5 : zSnd 37 5 (o_const 161 8) := zS_sipush (by decide +kernel) rfl (by decide) (by decide)
theorem zr_37_8 : zSnd 37 8 (o_cge 29 11) := zS_cge (by decide +kernel : decode (zmB 37) 8 = .ok (.if_icmp .ge 21, 3)) rfl (by decide)
theorem zr_37_11 : zSnd 37 11 (o_aload 2 12) := zS_aload_n (i := 2) (by decide +kernel) rfl rfl
theorem zr_37_12 : zSnd 37 12 (o_iload 3 13) := zS_iload_n (i := 3) (by decide +kernel) rfl rfl
theorem zr_37_13 : zSnd 37 13 (o_iload 4 15) := zS_iload (by decide +kernel) rfl
theorem zr_37_15 : zSnd 37 15 (o_iadd 16) := zS_iadd (by decide +kernel) rfl
theorem zr_37_16 : zSnd 37 16 (o_aload 0 17) := zS_aload_n (i := 0) (by decide +kernel) rfl rfl
theorem zr_37_17 : zSnd 37 17 (o_iload 1 18) := zS_iload_n (i := 1) (by decide +kernel) rfl rfl
theorem zr_37_18 : zSnd 37 18 (o_iload 4 20) := zS_iload (by decide +kernel) rfl
theorem zr_37_20 : zSnd 37 20 (o_iadd 21) := zS_iadd (by decide +kernel) rfl
theorem zr_37_21 : zSnd 37 21 (o_iald 22) := zS_iald (by decide +kernel) rfl
theorem zr_37_22 : zSnd 37 22 (o_iast 23) := zS_iast (by decide +kernel) rfl
theorem zr_37_23 : zSnd 37 23 (o_iinc 4 1 26) := zS_iinc (by decide +kernel) rfl (by decide +kernel)
theorem zr_37_26 : zSnd 37 26 (o_goto 3) := zS_goto (by decide +kernel : decode (zmB 37) 26 = .ok (.goto (-23), 3)) (by decide)
theorem zr_37_29 : zSnd 37 29 (o_ret) := zS_ret (by decide +kernel) (by decide +kernel)
theorem zT_37 (pc : Nat) : zSnd 37 pc (zc_37 pc) := by
  unfold zc_37
  exact (zSn_nd (zSn_nd (zSn_nd (zSn_nd (zSn_lf zr_37_0) (zSn_lf zr_37_1)) (zSn_nd (zSn_lf zr_37_3) (zSn_lf zr_37_5))) (zSn_nd (zSn_nd (zSn_lf zr_37_8) (zSn_lf zr_37_11)) (zSn_nd (zSn_lf zr_37_12) (zSn_nd (zSn_lf zr_37_13) (zSn_lf zr_37_15))))) (zSn_nd (zSn_nd (zSn_nd (zSn_lf zr_37_16) (zSn_lf zr_37_17)) (zSn_nd (zSn_lf zr_37_18) (zSn_lf zr_37_20))) (zSn_nd (zSn_nd (zSn_lf zr_37_21) (zSn_lf zr_37_22)) (zSn_nd (zSn_lf zr_37_23) (zSn_nd (zSn_lf zr_37_26) (zSn_lf zr_37_29))))))
theorem zr_38_0 : zSnd 38 0 (o_iload 0 1) := zS_iload_n (i := 0) (by decide +kernel) rfl rfl
theorem zr_38_1 : zSnd 38 1 (o_iload 1 2) := zS_iload_n (i := 1) (by decide +kernel) rfl rfl
theorem zr_38_2 : zSnd 38 2 (o_clt 14 5) := zS_clt (by decide +kernel : decode (zmB 38) 2 = .ok (.if_icmp .lt 12, 3)) rfl (by decide)
theorem zr_38_5 : zSnd 38 5 (o_iload 0 6) := zS_iload_n (i := 0) (by decide +kernel) rfl rfl
theorem zr_38_6 : zSnd 38 6 (o_iload 2 7) := zS_iload_n (i := 2) (by decide +kernel) rfl rfl
theorem zr_38_7 : zSnd 38 7 (o_cgt 14 10) := zS_cgt (by decide +kernel : decode (zmB 38) 7 = .ok (.if_icmp .gt 7, 3)) rfl (by decide)
theorem zr_38_10 : zSnd 38 10 (o_const 1 11) := zS_iconst (by decide +kernel) rfl (by decide)
theorem zr_38_11 : zSnd 38 11 (o_goto 15) := zS_goto (by decide +kernel : decode (zmB 38) 11 = .ok (.goto 4, 3)) (by decide)
theorem zr_38_14 : zSnd 38 14 (o_const 0 15) := zS_iconst (by decide +kernel) rfl (by decide)
theorem zr_38_15 : zSnd 38 15 (o_zret) := zS_zret (by decide +kernel) (by decide +kernel)
theorem zT_38 (pc : Nat) : zSnd 38 pc (zc_38 pc) := by
  unfold zc_38
  exact (zSn_nd (zSn_nd (zSn_nd (zSn_lf zr_38_0) (zSn_lf zr_38_1)) (zSn_nd (zSn_lf zr_38_2) (zSn_nd (zSn_lf zr_38_5) (zSn_lf zr_38_6)))) (zSn_nd (zSn_nd (zSn_lf zr_38_7) (zSn_lf zr_38_10)) (zSn_nd (zSn_lf zr_38_11) (zSn_nd (zSn_lf zr_38_14) (zSn_lf zr_38_15)))))
theorem zr_39_0 : zSnd 39 0 (o_aload 0 1) := zS_aload_n (i := 0) (by decide +kernel) rfl rfl
theorem zr_39_1 : zSnd 39 1 (o_getf 6 4 4) := zS_getf (idx := 26) (by decide +kernel) rfl (by decide) rfl (by decide) rfl zin_6 zq_178
theorem zr_39_4 : zSnd 39 4 (o_const 4 5) := zS_iconst (by decide +kernel) rfl (by decide)
theorem zr_39_5 : zSnd 39 5 (o_cne 49 8) := zS_cne (by decide +kernel : decode (zmB 39) 5 = .ok (.if_icmp .ne 44, 3)) rfl (by decide)
theorem zr_39_8 : zSnd 39 8 (o_const 0 9) := zS_iconst (by decide +kernel) rfl (by decide)
theorem zr_39_9 : zSnd 39 9 (o_istore 1 10) := zS_istore_n (i := 1) (by decide +kernel) rfl rfl (by decide +kernel)
theorem zr_39_10 : zSnd 39 10 (o_iload 1 11) := zS_iload_n (i := 1) (by decide +kernel) rfl rfl
theorem zr_39_11 : zSnd 39 11 (o_const 483 14) := zS_sipush (by decide +kernel) rfl (by decide) (by decide)
theorem zr_39_14 : zSnd 39 14 (o_cge 39 17) := zS_cge (by decide +kernel : decode (zmB 39) 14 = .ok (.if_icmp .ge 25, 3)) rfl (by decide)
theorem zr_39_17 : zSnd 39 17 (o_aload 0 18) := zS_aload_n (i := 0) (by decide +kernel) rfl rfl
theorem zr_39_18 : zSnd 39 18 (o_getf 6 3 21) := zS_getf (idx := 16) (by decide +kernel) rfl (by decide) rfl (by decide) rfl zin_6 zq_179
theorem zr_39_21 : zSnd 39 21 (o_iload 1 22) := zS_iload_n (i := 1) (by decide +kernel) rfl rfl
theorem zr_39_22 : zSnd 39 22 (o_aload 0 23) := zS_aload_n (i := 0) (by decide +kernel) rfl rfl
theorem zr_39_23 : zSnd 39 23 (o_getf 6 3 26) := zS_getf (idx := 16) (by decide +kernel) rfl (by decide) rfl (by decide) rfl zin_6 zq_179
theorem zr_39_26 : zSnd 39 26 (o_iload 1 27) := zS_iload_n (i := 1) (by decide +kernel) rfl rfl
theorem zr_39_27 : zSnd 39 27 (o_const 161 30) := zS_sipush (by decide +kernel) rfl (by decide) (by decide)
theorem zr_39_30 : zSnd 39 30 (o_iadd 31) := zS_iadd (by decide +kernel) rfl
theorem zr_39_31 : zSnd 39 31 (o_iald 32) := zS_iald (by decide +kernel) rfl
theorem zr_39_32 : zSnd 39 32 (o_iast 33) := zS_iast (by decide +kernel) rfl
theorem zr_39_33 : zSnd 39 33 (o_iinc 1 1 36) := zS_iinc (by decide +kernel) rfl (by decide +kernel)
theorem zr_39_36 : zSnd 39 36 (o_goto 10) := zS_goto (by decide +kernel : decode (zmB 39) 36 = .ok (.goto (-26), 3)) (by decide)
theorem zr_39_39 : zSnd 39 39 (o_aload 0 40) := zS_aload_n (i := 0) (by decide +kernel) rfl rfl
theorem zr_39_40 : zSnd 39 40 (o_dup 41) := zS_dup (by decide +kernel) rfl
theorem zr_39_41 : zSnd 39 41 (o_getf 6 4 44) := zS_getf (idx := 26) (by decide +kernel) rfl (by decide) rfl (by decide) rfl zin_6 zq_178
theorem zr_39_44 : zSnd 39 44 (o_const 1 45) := zS_iconst (by decide +kernel) rfl (by decide)
theorem zr_39_45 : zSnd 39 45 (o_isub 46) := zS_isub (by decide +kernel) rfl
theorem zr_39_46 : zSnd 39 46 (o_putf 6 4 49) := zS_putf (idx := 26) (by decide +kernel) rfl (by decide) rfl (by decide) rfl zin_6 tyX5_ok nmX5 rfl (by decide +kernel) zq_178
theorem zr_39_49 : zSnd 39 49 (o_aload 0 50) := zS_aload_n (i := 0) (by decide +kernel) rfl rfl
theorem zr_39_50 : zSnd 39 50 (o_getf 6 1 53) := zS_getf (idx := 7) (by decide +kernel) rfl (by decide) rfl (by decide) rfl zin_6 zq_180
theorem zr_39_53 : zSnd 39 53 (o_const 0 54) := zS_iconst (by decide +kernel) rfl (by decide)
theorem zr_39_54 : zSnd 39 54 (o_aload 0 55) := zS_aload_n (i := 0) (by decide +kernel) rfl rfl
theorem zr_39_55 : zSnd 39 55 (o_getf 6 3 58) := zS_getf (idx := 16) (by decide +kernel) rfl (by decide) rfl (by decide) rfl zin_6 zq_179
theorem zr_39_58 : zSnd 39 58 (o_aload 0 59) := zS_aload_n (i := 0) (by decide +kernel) rfl rfl
theorem zr_39_59 : zSnd 39 59 (o_getf 6 4 62) := zS_getf (idx := 26) (by decide +kernel) rfl (by decide) rfl (by decide) rfl zin_6 zq_178
theorem zr_39_62 : zSnd 39 62 (o_const 161 65) := zS_sipush (by decide +kernel) rfl (by decide) (by decide)
theorem zr_39_65 : zSnd 39 65 (o_imul 66) := zS_imul (by decide +kernel) rfl
theorem zr_39_66 : zSnd 39 66 (o_call 37 4 5 0 69) := zS_callS (idx := 29) (by decide +kernel) rfl zq_181 zq_182 (by decide +kernel) zMk_37 (by decide +kernel) (by decide +kernel) (by decide +kernel)
theorem zr_39_69 : zSnd 39 69 (o_aload 0 70) := zS_aload_n (i := 0) (by decide +kernel) rfl rfl
theorem zr_39_70 : zSnd 39 70 (o_dup 71) := zS_dup (by decide +kernel) rfl
theorem zr_39_71 : zSnd 39 71 (o_getf 6 4 74) := zS_getf (idx := 26) (by decide +kernel) rfl (by decide) rfl (by decide) rfl zin_6 zq_178
theorem zr_39_74 : zSnd 39 74 (o_const 1 75) := zS_iconst (by decide +kernel) rfl (by decide)
theorem zr_39_75 : zSnd 39 75 (o_iadd 76) := zS_iadd (by decide +kernel) rfl
theorem zr_39_76 : zSnd 39 76 (o_putf 6 4 79) := zS_putf (idx := 26) (by decide +kernel) rfl (by decide) rfl (by decide) rfl zin_6 tyX5_ok nmX5 rfl (by decide +kernel) zq_178
theorem zr_39_79 : zSnd 39 79 (o_ret) := zS_ret (by decide +kernel) (by decide +kernel)
theorem zT_39 (pc : Nat) : zSnd 39 pc (zc_39 pc) := by
  unfold zc_39
  exact (zSn_nd (zSn_nd (zSn_nd (zSn_nd (zSn_nd (zSn_lf zr_39_0) (zSn_lf zr_39_1)) (zSn_nd (zSn_lf zr_39_4) (zSn_nd (zSn_lf zr_39_5) (zSn_lf zr_39_8)))) (zSn_nd (zSn_nd (zSn_lf zr_39_9) (zSn_nd (zSn_lf zr_39_10) (zSn_lf zr_39_11))) (zSn_nd (zSn_lf zr_39_14) (zSn_nd (zSn_lf zr_39_17) (zSn_lf zr_39_18))))) (zSn_nd (zSn_nd (zSn_nd (zSn_lf zr_39_21) (zSn_lf zr_39_22)) (zSn_nd (zSn_lf zr_39_23) (zSn_nd (zSn_lf zr_39_26) (zSn_lf zr_39_27)))) (zSn_nd (zSn_nd (zSn_lf zr_39_30) (zSn_nd (zSn_lf zr_39_31) (zSn_lf zr_39_32))) (zSn_nd (zSn_lf zr_39_33) (zSn_nd (zSn_lf zr_39_36) (zSn_lf zr_39_39)))))) (zSn_nd (zSn_nd (zSn_nd (zSn_nd (zSn_lf zr_39_40) (zSn_lf zr_39_41)) (zSn_nd (zSn_lf zr_39_44) (zSn_nd (zSn_lf zr_39_45) (zSn_lf zr_39_46)))) (zSn_nd (zSn_nd (zSn_lf zr_39_49) (zSn_nd (zSn_lf zr_39_50) (zSn_lf zr_39_53))) (zSn_nd (zSn_lf zr_39_54) (zSn_nd (zSn_lf zr_39_55) (zSn_lf zr_39_58))))) (zSn_nd (zSn_nd (zSn_nd (zSn_lf zr_39_59) (zSn_lf zr_39_62)) (zSn_nd (zSn_lf zr_39_65) (zSn_nd (zSn_lf zr_39_66) (zSn_lf zr_39_69)))) (zSn_nd (zSn_nd (zSn_lf zr_39_70) (zSn_nd (zSn_lf zr_39_71) (zSn_lf zr_39_74))) (zSn_nd (zSn_lf zr_39_75) (zSn_nd (zSn_lf zr_39_76) (zSn_lf zr_39_79)))))))
theorem zr_40_0 : zSnd 40 0 (o_iload 1 1) := zS_iload_n (i := 1) (by decide +kernel) rfl rfl
theorem zr_40_1 : zSnd 40 1 (o_const 0 2) := zS_iconst (by decide +kernel) rfl (by decide)
theorem zr_40_2 : zSnd 40 2 (o_aload 0 3) := zS_aload_n (i := 0) (by decide +kernel) rfl rfl
theorem zr_40_3 : zSnd 40 3 (o_getf 6 1 6) := zS_getf (idx := 7) (by decide +kernel) rfl (by decide) rfl (by decide) rfl zin_6 zq_180
theorem zr_40_6 : zSnd 40 6 (o_const 0 7) := zS_iconst (by decide +kernel) rfl (by decide)
theorem zr_40_7 : zSnd 40 7 (o_iald 8) := zS_iald (by decide +kernel) rfl
theorem zr_40_8 : zSnd 40 8 (o_const 1 9) := zS_iconst (by decide +kernel) rfl (by decide)
theorem zr_40_9 : zSnd 40 9 (o_isub 10) := zS_isub (by decide +kernel) rfl
theorem zr_40_10 : zSnd 40 10 (o_call 38 3 3 1 13) := zS_callS (idx := 33) (by decide +kernel) rfl zq_183 zq_184 (by decide +kernel) zMk_38 (by decide +kernel) (by decide +kernel) (by decide +kernel)
theorem zr_40_13 : zSnd 40 13 (o_zret) := zS_zret (by decide +kernel) (by decide +kernel)
theorem zT_40 (pc : Nat) : zSnd 40 pc (zc_40 pc) := by
  unfold zc_40
  exact (zSn_nd (zSn_nd (zSn_nd (zSn_lf zr_40_0) (zSn_lf zr_40_1)) (zSn_nd (zSn_lf zr_40_2) (zSn_nd (zSn_lf zr_40_3) (zSn_lf zr_40_6)))) (zSn_nd (zSn_nd (zSn_lf zr_40_7) (zSn_lf zr_40_8)) (zSn_nd (zSn_lf zr_40_9) (zSn_nd (zSn_lf zr_40_10) (zSn_lf zr_40_13)))))
theorem zr_41_0 : zSnd 41 0 (o_iload 1 1) := zS_iload_n (i := 1) (by decide +kernel) rfl rfl
theorem zr_41_1 : zSnd 41 1 (o_const 0 2) := zS_iconst (by decide +kernel) rfl (by decide)
theorem zr_41_2 : zSnd 41 2 (o_aload 0 3) := zS_aload_n (i := 0) (by decide +kernel) rfl rfl
theorem zr_41_3 : zSnd 41 3 (o_getf 6 1 6) := zS_getf (idx := 7) (by decide +kernel) rfl (by decide) rfl (by decide) rfl zin_6 zq_180
theorem zr_41_6 : zSnd 41 6 (o_const 1 7) := zS_iconst (by decide +kernel) rfl (by decide)
theorem zr_41_7 : zSnd 41 7 (o_iald 8) := zS_iald (by decide +kernel) rfl
theorem zr_41_8 : zSnd 41 8 (o_const 1 9) := zS_iconst (by decide +kernel) rfl (by decide)
theorem zr_41_9 : zSnd 41 9 (o_isub 10) := zS_isub (by decide +kernel) rfl
theorem zr_41_10 : zSnd 41 10 (o_call 38 3 3 1 13) := zS_callS (idx := 33) (by decide +kernel) rfl zq_183 zq_184 (by decide +kernel) zMk_38 (by decide +kernel) (by decide +kernel) (by decide +kernel)
theorem zr_41_13 : zSnd 41 13 (o_zret) := zS_zret (by decide +kernel) (by decide +kernel)
theorem zT_41 (pc : Nat) : zSnd 41 pc (zc_41 pc) := by
  unfold zc_41
  exact (zSn_nd (zSn_nd (zSn_nd (zSn_lf zr_41_0) (zSn_lf zr_41_1)) (zSn_nd (zSn_lf zr_41_2) (zSn_nd (zSn_lf zr_41_3) (zSn_lf zr_41_6)))) (zSn_nd (zSn_nd (zSn_lf zr_41_7) (zSn_lf zr_41_8)) (zSn_nd (zSn_lf zr_41_9) (zSn_nd (zSn_lf zr_41_10) (zSn_lf zr_41_13)))))
theorem zr_42_0 : zSnd 42 0 (o_aload 0 1) := zS_aload_n (i := 0) (by decide +kernel) rfl rfl
theorem zr_42_1 : zSnd 42 1 (o_getf 6 1 4) := zS_getf (idx := 7) (by decide +kernel) rfl (by decide) rfl (by decide) rfl zin_6 zq_180
theorem zr_42_4 : zSnd 42 4 (o_const 5 5) := zS_iconst (by decide +kernel) rfl (by decide)
theorem zr_42_5 : zSnd 42 5 (o_const 3 6) := zS_iconst (by decide +kernel) rfl (by decide)
theorem zr_42_6 : zSnd 42 6 (o_iload 1 7) := zS_iload_n (i := 1) (by decide +kernel) rfl rfl
theorem zr_42_7 : zSnd 42 7 (o_imul 8) := zS_imul (by decide +kernel) rfl
theorem zr_42_8 : zSnd 42 8 (o_iadd 9) := zS_iadd (by decide +kernel) rfl
theorem zr_42_9 : zSnd 42 9 (o_iload 2 10) := zS_iload_n (i := 2) (by decide +kernel) rfl rfl
theorem zr_42_10 : zSnd 42 10 (o_iadd 11) := zS_iadd (by decide +kernel) rfl
theorem zr_42_11 : zSnd 42 11 (o_iald 12) := zS_iald (by decide +kernel) rfl
theorem zr_42_12 : zSnd 42 12 (o_iret) := zS_iret (by decide +kernel) (by decide +kernel)
theorem zT_42 (pc : Nat) : zSnd 42 pc (zc_42 pc) := by
  unfold zc_42
  exact (zSn_nd (zSn_nd (zSn_nd (zSn_lf zr_42_0) (zSn_lf zr_42_1)) (zSn_nd (zSn_lf zr_42_4) (zSn_nd (zSn_lf zr_42_5) (zSn_lf zr_42_6)))) (zSn_nd (zSn_nd (zSn_lf zr_42_7) (zSn_nd (zSn_lf zr_42_8) (zSn_lf zr_42_9))) (zSn_nd (zSn_lf zr_42_10) (zSn_nd (zSn_lf zr_42_11) (zSn_lf zr_42_12)))))
theorem zr_43_0 : zSnd 43 0 (o_const 23 2) := zS_bipush (by decide +kernel) rfl (by decide) (by decide)
theorem zr_43_2 : zSnd 43 2 (o_const 4 3) := zS_iconst (by decide +kernel) rfl (by decide)
theorem zr_43_3 : zSnd 43 3 (o_const 5 4) := zS_iconst (by decide +kernel) rfl (by decide)
theorem zr_43_4 : zSnd 43 4 (o_iload 0 5) := zS_iload_n (i := 0) (by decide +kernel) rfl rfl
theorem zr_43_5 : zSnd 43 5 (o_imul 6) := zS_imul (by decide +kernel) rfl
theorem zr_43_6 : zSnd 43 6 (o_iload 1 7) := zS_iload_n (i := 1) (by decide +kernel) rfl rfl
theorem zr_43_7 : zSnd 43 7 (o_iadd 8) := zS_iadd (by decide +kernel) rfl
theorem zr_43_8 : zSnd 43 8 (o_imul 9) := zS_imul (by decide +kernel) rfl
theorem zr_43_9 : zSnd 43 9 (o_iadd 10) := zS_iadd (by decide +kernel) rfl
theorem zr_43_10 : zSnd 43 10 (o_iret) := zS_iret (by decide +kernel) (by decide +kernel)
theorem zT_43 (pc : Nat) : zSnd 43 pc (zc_43 pc) := by
  unfold zc_43
  exact (zSn_nd (zSn_nd (zSn_nd (zSn_lf zr_43_0) (zSn_lf zr_43_2)) (zSn_nd (zSn_lf zr_43_3) (zSn_nd (zSn_lf zr_43_4) (zSn_lf zr_43_5)))) (zSn_nd (zSn_nd (zSn_lf zr_43_6) (zSn_lf zr_43_7)) (zSn_nd (zSn_lf zr_43_8) (zSn_nd (zSn_lf zr_43_9) (zSn_lf zr_43_10)))))
theorem zr_44_0 : zSnd 44 0 (o_aload 0 1) := zS_aload_n (i := 0) (by decide +kernel) rfl rfl
theorem zr_44_1 : zSnd 44 1 (o_getf 6 1 4) := zS_getf (idx := 7) (by decide +kernel) rfl (by decide) rfl (by decide) rfl zin_6 zq_180
theorem zr_44_4 : zSnd 44 4 (o_iload 1 5) := zS_iload_n (i := 1) (by decide +kernel) rfl rfl
theorem zr_44_5 : zSnd 44 5 (o_iload 2 6) := zS_iload_n (i := 2) (by decide +kernel) rfl rfl
theorem zr_44_6 : zSnd 44 6 (o_call 43 2 2 1 9) := zS_callS (idx := 37) (by decide +kernel) rfl zq_185 zq_186 (by decide +kernel) zMk_43 (by decide +kernel) (by decide +kernel) (by decide +kernel)
theorem zr_44_9 : zSnd 44 9 (o_iload 3 10) := zS_iload_n (i := 3) (by decide +kernel) rfl rfl
theorem zr_44_10 : zSnd 44 10 (o_iadd 11) := zS_iadd (by decide +kernel) rfl
theorem zr_44_11 : zSnd 44 11 (o_iald 12) := zS_iald (by decide +kernel) rfl
theorem zr_44_12 : zSnd 44 12 (o_iret) := zS_iret (by decide +kernel) (by decide +kernel)
theorem zT_44 (pc : Nat) : zSnd 44 pc (zc_44 pc) := by
  unfold zc_44
  exact (zSn_nd (zSn_nd (zSn_nd (zSn_lf zr_44_0) (zSn_lf zr_44_1)) (zSn_nd (zSn_lf zr_44_4) (zSn_lf zr_44_5))) (zSn_nd (zSn_nd (zSn_lf zr_44_6) (zSn_lf zr_44_9)) (zSn_nd (zSn_lf zr_44_10) (zSn_nd (zSn_lf zr_44_11) (zSn_lf zr_44_12)))))
theorem zr_45_0 : zSnd 45 0 (o_aload 0 1) := zS_aload_n (i := 0) (by decide +kernel) rfl rfl
theorem zr_45_1 : zSnd 45 1 (o_iload 1 2) := zS_iload_n (i := 1) (by decide +kernel) rfl rfl
theorem zr_45_2 : zSnd 45 2 (o_callv 6 41 2 2 1 5) := zS_callV (n := 1) (idx := 41) (by decide +kernel) rfl rfl (by decide) rfl zq_187 zq_188 zq_189 (by decide +kernel) zMk_41 (by decide +kernel) (by decide +kernel) (by decide +kernel)
theorem zr_45_5 : zSnd 45 5 (o_ifeq 28 8) := zS_ifeq (by decide +kernel : decode (zmB 45) 5 = .ok (.ifCond .eq 23, 3)) rfl (by decide)
theorem zr_45_8 : zSnd 45 8 (o_iload 2 9) := zS_iload_n (i := 2) (by decide +kernel) rfl rfl
theorem zr_45_9 : zSnd 45 9 (o_const 0 10) := zS_iconst (by decide +kernel) rfl (by decide)
theorem zr_45_10 : zSnd 45 10 (o_aload 0 11) := zS_aload_n (i := 0) (by decide +kernel) rfl rfl
theorem zr_45_11 : zSnd 45 11 (o_iload 1 12) := zS_iload_n (i := 1) (by decide +kernel) rfl rfl
theorem zr_45_12 : zSnd 45 12 (o_const 2 13) := zS_iconst (by decide +kernel) rfl (by decide)
theorem zr_45_13 : zSnd 45 13 (o_callv 6 42 3 3 1 16) := zS_callV (n := 2) (idx := 45) (by decide +kernel) rfl rfl (by decide) rfl zq_190 zq_191 zq_192 (by decide +kernel) zMk_42 (by decide +kernel) (by decide +kernel) (by decide +kernel)
theorem zr_45_16 : zSnd 45 16 (o_const 1 17) := zS_iconst (by decide +kernel) rfl (by decide)
theorem zr_45_17 : zSnd 45 17 (o_isub 18) := zS_isub (by decide +kernel) rfl
theorem zr_45_18 : zSnd 45 18 (o_call 38 3 3 1 21) := zS_callS (idx := 33) (by decide +kernel) rfl zq_183 zq_184 (by decide +kernel) zMk_38 (by decide +kernel) (by decide +kernel) (by decide +kernel)
theorem zr_45_21 : zSnd 45 21 (o_ifeq 28 24) := zS_ifeq (by decide +kernel : decode (zmB 45) 21 = .ok (.ifCond .eq 7, 3)) rfl (by decide)
theorem zr_45_24 : zSnd 45 24 (o_const 1 25) := zS_iconst (by decide +kernel) rfl (by decide)
theorem zr_45_25 : zSnd 45 25 (o_goto 29) := zS_goto (by decide +kernel : decode (zmB 45) 25 = .ok (.goto 4, 3)) (by decide)
theorem zr_45_28 : zSnd 45 28 (o_const 0 29) := zS_iconst (by decide +kernel) rfl (by decide)
theorem zr_45_29 : zSnd 45 29 (o_zret) := zS_zret (by decide +kernel) (by decide +kernel)
theorem zT_45 (pc : Nat) : zSnd 45 pc (zc_45 pc) := by
  unfold zc_45
  exact (zSn_nd (zSn_nd (zSn_nd (zSn_nd (zSn_lf zr_45_0) (zSn_lf zr_45_1)) (zSn_nd (zSn_lf zr_45_2) (zSn_lf zr_45_5))) (zSn_nd (zSn_nd (zSn_lf zr_45_8) (zSn_lf zr_45_9)) (zSn_nd (zSn_lf zr_45_10) (zSn_nd (zSn_lf zr_45_11) (zSn_lf zr_45_12))))) (zSn_nd (zSn_nd (zSn_nd (zSn_lf zr_45_13) (zSn_lf zr_45_16)) (zSn_nd (zSn_lf zr_45_17) (zSn_lf zr_45_18))) (zSn_nd (zSn_nd (zSn_lf zr_45_21) (zSn_lf zr_45_24)) (zSn_nd (zSn_lf zr_45_25) (zSn_nd (zSn_lf zr_45_28) (zSn_lf zr_45_29))))))
theorem zr_46_0 : zSnd 46 0 (o_aload 0 1) := zS_aload_n (i := 0) (by decide +kernel) rfl rfl
theorem zr_46_1 : zSnd 46 1 (o_getf 6 1 4) := zS_getf (idx := 7) (by decide +kernel) rfl (by decide) rfl (by decide) rfl zin_6 zq_180
theorem zr_46_4 : zSnd 46 4 (o_const 143 7) := zS_sipush (by decide +kernel) rfl (by decide) (by decide)
theorem zr_46_7 : zSnd 46 7 (o_const 3 8) := zS_iconst (by decide +kernel) rfl (by decide)
theorem zr_46_8 : zSnd 46 8 (o_iload 1 9) := zS_iload_n (i := 1) (by decide +kernel) rfl rfl
theorem zr_46_9 : zSnd 46 9 (o_imul 10) := zS_imul (by decide +kernel) rfl
theorem zr_46_10 : zSnd 46 10 (o_iadd 11) := zS_iadd (by decide +kernel) rfl
theorem zr_46_11 : zSnd 46 11 (o_iload 2 12) := zS_iload_n (i := 2) (by decide +kernel) rfl rfl
theorem zr_46_12 : zSnd 46 12 (o_iadd 13) := zS_iadd (by decide +kernel) rfl
theorem zr_46_13 : zSnd 46 13 (o_iald 14) := zS_iald (by decide +kernel) rfl
theorem zr_46_14 : zSnd 46 14 (o_iret) := zS_iret (by decide +kernel) (by decide +kernel)
theorem zT_46 (pc : Nat) : zSnd 46 pc (zc_46 pc) := by
  unfold zc_46
  exact (zSn_nd (zSn_nd (zSn_nd (zSn_lf zr_46_0) (zSn_lf zr_46_1)) (zSn_nd (zSn_lf zr_46_4) (zSn_nd (zSn_lf zr_46_7) (zSn_lf zr_46_8)))) (zSn_nd (zSn_nd (zSn_lf zr_46_9) (zSn_nd (zSn_lf zr_46_10) (zSn_lf zr_46_11))) (zSn_nd (zSn_lf zr_46_12) (zSn_nd (zSn_lf zr_46_13) (zSn_lf zr_46_14)))))
theorem zr_47_0 : zSnd 47 0 (o_aload 0 1) := zS_aload_n (i := 0) (by decide +kernel) rfl rfl
theorem zr_47_1 : zSnd 47 1 (o_iload 1 2) := zS_iload_n (i := 1) (by decide +kernel) rfl rfl
theorem zr_47_2 : zSnd 47 2 (o_const 2 3) := zS_iconst (by decide +kernel) rfl (by decide)
theorem zr_47_3 : zSnd 47 3 (o_const 5 4) := zS_iconst (by decide +kernel) rfl (by decide)
theorem zr_47_4 : zSnd 47 4 (o_call 38 3 3 1 7) := zS_callS (idx := 33) (by decide +kernel) rfl zq_183 zq_184 (by decide +kernel) zMk_38 (by decide +kernel) (by decide +kernel) (by decide +kernel)
theorem zr_47_7 : zSnd 47 7 (o_ifeq 14 10) := zS_ifeq (by decide +kernel : decode (zmB 47) 7 = .ok (.ifCond .eq 7, 3)) rfl (by decide)
theorem zr_47_10 : zSnd 47 10 (o_const 0 11) := zS_iconst (by decide +kernel) rfl (by decide)
theorem zr_47_11 : zSnd 47 11 (o_goto 15) := zS_goto (by decide +kernel : decode (zmB 47) 11 = .ok (.goto 4, 3)) (by decide)
theorem zr_47_14 : zSnd 47 14 (o_const 1 15) := zS_iconst (by decide +kernel) rfl (by decide)
theorem zr_47_15 : zSnd 47 15 (o_putf 6 0 18) := zS_putf (idx := 22) (by decide +kernel) rfl (by decide) rfl (by decide) rfl zin_6 tyX5_ok nmX5 rfl (by decide +kernel) zq_177
theorem zr_47_18 : zSnd 47 18 (o_aload 0 19) := zS_aload_n (i := 0) (by decide +kernel) rfl rfl
theorem zr_47_19 : zSnd 47 19 (o_getf 6 0 22) := zS_getf (idx := 22) (by decide +kernel) rfl (by decide) rfl (by decide) rfl zin_6 zq_177
theorem zr_47_22 : zSnd 47 22 (o_ifle 27 25) := zS_ifle (by decide +kernel : decode (zmB 47) 22 = .ok (.ifCond .le 5, 3)) rfl (by decide)
theorem zr_47_25 : zSnd 47 25 (o_const 0 26) := zS_iconst (by decide +kernel) rfl (by decide)
theorem zr_47_26 : zSnd 47 26 (o_iret) := zS_iret (by decide +kernel) (by decide +kernel)
theorem zr_47_27 : zSnd 47 27 (o_aload 0 28) := zS_aload_n (i := 0) (by decide +kernel) rfl rfl
theorem zr_47_28 : zSnd 47 28 (o_callv 6 39 1 2 0 31) := zS_callV (n := 0) (idx := 48) (by decide +kernel) rfl rfl (by decide) rfl zq_193 zq_194 zq_195 (by decide +kernel) zMk_39 (by decide +kernel) (by decide +kernel) (by decide +kernel)
theorem zr_47_31 : zSnd 47 31 (o_aload 0 32) := zS_aload_n (i := 0) (by decide +kernel) rfl rfl
theorem zr_47_32 : zSnd 47 32 (o_getf 6 1 35) := zS_getf (idx := 7) (by decide +kernel) rfl (by decide) rfl (by decide) rfl zin_6 zq_180
theorem zr_47_35 : zSnd 47 35 (o_const 1 36) := zS_iconst (by decide +kernel) rfl (by decide)
theorem zr_47_36 : zSnd 47 36 (o_iald 37) := zS_iald (by decide +kernel) rfl
theorem zr_47_37 : zSnd 47 37 (o_istore 2 38) := zS_istore_n (i := 2) (by decide +kernel) rfl rfl (by decide +kernel)
theorem zr_47_38 : zSnd 47 38 (o_aload 0 39) := zS_aload_n (i := 0) (by decide +kernel) rfl rfl
theorem zr_47_39 : zSnd 47 39 (o_getf 6 1 42) := zS_getf (idx := 7) (by decide +kernel) rfl (by decide) rfl (by decide) rfl zin_6 zq_180
theorem zr_47_42 : zSnd 47 42 (o_const 0 43) := zS_iconst (by decide +kernel) rfl (by decide)
theorem zr_47_43 : zSnd 47 43 (o_iload 1 44) := zS_iload_n (i := 1) (by decide +kernel) rfl rfl
theorem zr_47_44 : zSnd 47 44 (o_iast 45) := zS_iast (by decide +kernel) rfl
theorem zr_47_45 : zSnd 47 45 (o_aload 0 46) := zS_aload_n (i := 0) (by decide +kernel) rfl rfl
theorem zr_47_46 : zSnd 47 46 (o_getf 6 1 49) := zS_getf (idx := 7) (by decide +kernel) rfl (by decide) rfl (by decide) rfl zin_6 zq_180
theorem zr_47_49 : zSnd 47 49 (o_const 1 50) := zS_iconst (by decide +kernel) rfl (by decide)
theorem zr_47_50 : zSnd 47 50 (o_const 0 51) := zS_iconst (by decide +kernel) rfl (by decide)
theorem zr_47_51 : zSnd 47 51 (o_iast 52) := zS_iast (by decide +kernel) rfl
theorem zr_47_52 : zSnd 47 52 (o_aload 0 53) := zS_aload_n (i := 0) (by decide +kernel) rfl rfl
theorem zr_47_53 : zSnd 47 53 (o_getf 6 1 56) := zS_getf (idx := 7) (by decide +kernel) rfl (by decide) rfl (by decide) rfl zin_6 zq_180
theorem zr_47_56 : zSnd 47 56 (o_const 2 57) := zS_iconst (by decide +kernel) rfl (by decide)
theorem zr_47_57 : zSnd 47 57 (o_const 0 58) := zS_iconst (by decide +kernel) rfl (by decide)
theorem zr_47_58 : zSnd 47 58 (o_iast 59) := zS_iast (by decide +kernel) rfl
theorem zr_47_59 : zSnd 47 59 (o_aload 0 60) := zS_aload_n (i := 0) (by decide +kernel) rfl rfl
theorem zr_47_60 : zSnd 47 60 (o_getf 6 1 63) := zS_getf (idx := 7) (by decide +kernel) rfl (by decide) rfl (by decide) rfl zin_6 zq_180
theorem zr_47_63 : zSnd 47 63 (o_const 3 64) := zS_iconst (by decide +kernel) rfl (by decide)
theorem zr_47_64 : zSnd 47 64 (o_const 0 65) := zS_iconst (by decide +kernel) rfl (by decide)
theorem zr_47_65 : zSnd 47 65 (o_iast 66) := zS_iast (by decide +kernel) rfl
theorem zr_47_66 : zSnd 47 66 (o_aload 0 67) := zS_aload_n (i := 0) (by decide +kernel) rfl rfl
theorem zr_47_67 : zSnd 47 67 (o_getf 6 1 70) := zS_getf (idx := 7) (by decide +kernel) rfl (by decide) rfl (by decide) rfl zin_6 zq_180
theorem zr_47_70 : zSnd 47 70 (o_const 4 71) := zS_iconst (by decide +kernel) rfl (by decide)
theorem zr_47_71 : zSnd 47 71 (o_const 0 72) := zS_iconst (by decide +kernel) rfl (by decide)
theorem zr_47_72 : zSnd 47 72 (o_iast 73) := zS_iast (by decide +kernel) rfl
theorem zr_47_73 : zSnd 47 73 (o_iload 2 74) := zS_iload_n (i := 2) (by decide +kernel) rfl rfl
theorem zr_47_74 : zSnd 47 74 (o_iret) := zS_iret (by decide +kernel) (by decide +kernel)
theorem zT_47 (pc : Nat) : zSnd 47 pc (zc_47 pc) := by
  unfold zc_47
  exact (zSn_nd (zSn_nd (zSn_nd (zSn_nd (zSn_nd (zSn_lf zr_47_0) (zSn_nd (zSn_lf zr_47_1) (zSn_lf zr_47_2))) (zSn_nd (zSn_lf zr_47_3) (zSn_nd (zSn_lf zr_47_4) (zSn_lf zr_47_7)))) (zSn_nd (zSn_nd (zSn_lf zr_47_10) (zSn_nd (zSn_lf zr_47_11) (zSn_lf zr_47_14))) (zSn_nd (zSn_lf zr_47_15) (zSn_nd (zSn_lf zr_47_18) (zSn_lf zr_47_19))))) (zSn_nd (zSn_nd (zSn_nd (zSn_lf zr_47_22) (zSn_nd (zSn_lf zr_47_25) (zSn_lf zr_47_26))) (zSn_nd (zSn_lf zr_47_27) (zSn_nd (zSn_lf zr_47_28) (zSn_lf zr_47_31)))) (zSn_nd (zSn_nd (zSn_lf zr_47_32) (zSn_nd (zSn_lf zr_47_35) (zSn_lf zr_47_36))) (zSn_nd (zSn_lf zr_47_37) (zSn_nd (zSn_lf zr_47_38) (zSn_lf zr_47_39)))))) (zSn_nd (zSn_nd (zSn_nd (zSn_nd (zSn_lf zr_47_42) (zSn_nd (zSn_lf zr_47_43) (zSn_lf zr_47_44))) (zSn_nd (zSn_lf zr_47_45) (zSn_nd (zSn_lf zr_47_46) (zSn_lf zr_47_49)))) (zSn_nd (zSn_nd (zSn_lf zr_47_50) (zSn_nd (zSn_lf zr_47_51) (zSn_lf zr_47_52))) (zSn_nd (zSn_lf zr_47_53) (zSn_nd (zSn_lf zr_47_56) (zSn_lf zr_47_57))))) (zSn_nd (zSn_nd (zSn_nd (zSn_lf zr_47_58) (zSn_nd (zSn_lf zr_47_59) (zSn_lf zr_47_60))) (zSn_nd (zSn_lf zr_47_63) (zSn_nd (zSn_lf zr_47_64) (zSn_lf zr_47_65)))) (zSn_nd (zSn_nd (zSn_lf zr_47_66) (zSn_nd (zSn_lf zr_47_67) (zSn_lf zr_47_70))) (zSn_nd (zSn_nd (zSn_lf zr_47_71) (zSn_lf zr_47_72)) (zSn_nd (zSn_lf zr_47_73) (zSn_lf zr_47_74)))))))
theorem zr_48_0 : zSnd 48 0 (o_iload 1 1) := zS_iload_n (i := 1) (by decide +kernel) rfl rfl
theorem zr_48_1 : zSnd 48 1 (o_const 1 2) := zS_iconst (by decide +kernel) rfl (by decide)
theorem zr_48_2 : zSnd 48 2 (o_const 9 4) := zS_bipush (by decide +kernel) rfl (by decide) (by decide)
theorem zr_48_4 : zSnd 48 4 (o_call 38 3 3 1 7) := zS_callS (idx := 33) (by decide +kernel) rfl zq_183 zq_184 (by decide +kernel) zMk_38 (by decide +kernel) (by decide +kernel) (by decide +kernel)
theorem zr_48_7 : zSnd 48 7 (o_ifeq 21 10) := zS_ifeq (by decide +kernel : decode (zmB 48) 7 = .ok (.ifCond .eq 14, 3)) rfl (by decide)
theorem zr_48_10 : zSnd 48 10 (o_iload 2 11) := zS_iload_n (i := 2) (by decide +kernel) rfl rfl
theorem zr_48_11 : zSnd 48 11 (o_const 0 12) := zS_iconst (by decide +kernel) rfl (by decide)
theorem zr_48_12 : zSnd 48 12 (o_const 999 15) := zS_sipush (by decide +kernel) rfl (by decide) (by decide)
theorem zr_48_15 : zSnd 48 15 (o_call 38 3 3 1 18) := zS_callS (idx := 33) (by decide +kernel) rfl zq_183 zq_184 (by decide +kernel) zMk_38 (by decide +kernel) (by decide +kernel) (by decide +kernel)
theorem zr_48_18 : zSnd 48 18 (o_ifne 25 21) := zS_ifne (by decide +kernel : decode (zmB 48) 18 = .ok (.ifCond .ne 7, 3)) rfl (by decide)
theorem zr_48_21 : zSnd 48 21 (o_const 1 22) := zS_iconst (by decide +kernel) rfl (by decide)
theorem zr_48_22 : zSnd 48 22 (o_goto 41) := zS_goto (by decide +kernel : decode (zmB 48) 22 = .ok (.goto 19, 3)) (by decide)
theorem zr_48_25 : zSnd 48 25 (o_aload 0 26) := zS_aload_n (i := 0) (by decide +kernel) rfl rfl
theorem zr_48_26 : zSnd 48 26 (o_getf 6 1 29) := zS_getf (idx := 7) (by decide +kernel) rfl (by decide) rfl (by decide) rfl zin_6 zq_180
theorem zr_48_29 : zSnd 48 29 (o_const 1 30) := zS_iconst (by decide +kernel) rfl (by decide)
theorem zr_48_30 : zSnd 48 30 (o_iald 31) := zS_iald (by decide +kernel) rfl
theorem zr_48_31 : zSnd 48 31 (o_const 6 33) := zS_bipush (by decide +kernel) rfl (by decide) (by decide)
theorem zr_48_33 : zSnd 48 33 (o_cne 40 36) := zS_cne (by decide +kernel : decode (zmB 48) 33 = .ok (.if_icmp .ne 7, 3)) rfl (by decide)
theorem zr_48_36 : zSnd 48 36 (o_const 2 37) := zS_iconst (by decide +kernel) rfl (by decide)
theorem zr_48_37 : zSnd 48 37 (o_goto 41) := zS_goto (by decide +kernel : decode (zmB 48) 37 = .ok (.goto 4, 3)) (by decide)
theorem zr_48_40 : zSnd 48 40 (o_const 0 41) := zS_iconst (by decide +kernel) rfl (by decide)
theorem zr_48_41 : zSnd 48 41 (o_iret) := zS_iret (by decide +kernel) (by decide +kernel)
theorem zT_48 (pc : Nat) : zSnd 48 pc (zc_48 pc) := by
  unfold zc_48
  exact (zSn_nd (zSn_nd (zSn_nd (zSn_nd (zSn_lf zr_48_0) (zSn_lf zr_48_1)) (zSn_nd (zSn_lf zr_48_2) (zSn_nd (zSn_lf zr_48_4) (zSn_lf zr_48_7)))) (zSn_nd (zSn_nd (zSn_lf zr_48_10) (zSn_nd (zSn_lf zr_48_11) (zSn_lf zr_48_12))) (zSn_nd (zSn_lf zr_48_15) (zSn_nd (zSn_lf zr_48_18) (zSn_lf zr_48_21))))) (zSn_nd (zSn_nd (zSn_nd (zSn_lf zr_48_22) (zSn_lf zr_48_25)) (zSn_nd (zSn_lf zr_48_26) (zSn_nd (zSn_lf zr_48_29) (zSn_lf zr_48_30)))) (zSn_nd (zSn_nd (zSn_lf zr_48_31) (zSn_nd (zSn_lf zr_48_33) (zSn_lf zr_48_36))) (zSn_nd (zSn_lf zr_48_37) (zSn_nd (zSn_lf zr_48_40) (zSn_lf zr_48_41))))))
