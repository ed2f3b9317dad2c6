/-! ===== 11: a row for each step (written by a program) ===== -/
theorem zr_177_0 : zSnd 177 0 (o_const 4 1) := zS_iconst (by decide +kernel) rfl (by decide)
theorem zr_177_1 : zSnd 177 1 (o_iload 0 2) := zS_iload_n (i := 0) (by decide +kernel) rfl rfl
theorem zr_177_2 : zSnd 177 2 (o_imul 3) := zS_imul (by decide +kernel) rfl
theorem zr_177_3 : zSnd 177 3 (o_istore 3 4) := zS_istore_n (i := 3) (by decide +kernel) rfl rfl (by decide +kernel)
theorem zr_177_4 : zSnd 177 4 (o_iload 3 5) := zS_iload_n (i := 3) (by decide +kernel) rfl rfl
theorem zr_177_5 : zSnd 177 5 (o_const 4 6) := zS_iconst (by decide +kernel) rfl (by decide)
theorem zr_177_6 : zSnd 177 6 (o_iload 0 7) := zS_iload_n (i := 0) (by decide +kernel) rfl rfl
theorem zr_177_7 : zSnd 177 7 (o_imul 8) := zS_imul (by decide +kernel) rfl
theorem zr_177_8 : zSnd 177 8 (o_aload 1 9) := zS_aload_n (i := 1) (by decide +kernel) rfl rfl
theorem zr_177_9 : zSnd 177 9 (o_const 3 10) := zS_iconst (by decide +kernel) rfl (by decide)
theorem zr_177_10 : zSnd 177 10 (o_iload 0 11) := zS_iload_n (i := 0) (by decide +kernel) rfl rfl
theorem zr_177_11 : zSnd 177 11 (o_imul 12) := zS_imul (by decide +kernel) rfl
theorem zr_177_12 : zSnd 177 12 (o_const 2 13) := zS_iconst (by decide +kernel) rfl (by decide)
theorem zr_177_13 : zSnd 177 13 (o_iadd 14) := zS_iadd (by decide +kernel) rfl
theorem zr_177_14 : zSnd 177 14 (o_iald 15) := zS_iald (by decide +kernel) rfl
theorem zr_177_15 : zSnd 177 15 (o_iadd 16) := zS_iadd (by decide +kernel) rfl
theorem zr_177_16 : zSnd 177 16 (o_cge 37 19) := zS_cge (by decide +kernel : decode (zmB 177) 16 = .ok (.if_icmp .ge 21, 3)) rfl (by decide)
theorem zr_177_19 : zSnd 177 19 (o_aload 2 20) := zS_aload_n (i := 2) (by decide +kernel) rfl rfl
theorem zr_177_20 : zSnd 177 20 (o_const 4 21) := zS_iconst (by decide +kernel) rfl (by decide)
theorem zr_177_21 : zSnd 177 21 (o_iload 3 22) := zS_iload_n (i := 3) (by decide +kernel) rfl rfl
theorem zr_177_22 : zSnd 177 22 (o_imul 23) := zS_imul (by decide +kernel) rfl
theorem zr_177_23 : zSnd 177 23 (o_const 3 24) := zS_iconst (by decide +kernel) rfl (by decide)
theorem zr_177_24 : zSnd 177 24 (o_iadd 25) := zS_iadd (by decide +kernel) rfl
theorem zr_177_25 : zSnd 177 25 (o_iald 26) := zS_iald (by decide +kernel) rfl
theorem zr_177_26 : zSnd 177 26 (o_ifge 31 29) := zS_ifge (by decide +kernel : decode (zmB 177) 26 = .ok (.ifCond .ge 5, 3)) rfl (by decide)
theorem zr_177_29 : zSnd 177 29 (o_iload 3 30) := zS_iload_n (i := 3) (by decide +kernel) rfl rfl
theorem zr_177_30 : zSnd 177 30 (o_iret) := zS_iret (by decide +kernel) (by decide +kernel)
theorem zr_177_31 : zSnd 177 31 (o_iinc 3 1 34) := zS_iinc (by decide +kernel) rfl (by decide +kernel)
theorem zr_177_34 : zSnd 177 34 (o_goto 4) := zS_goto (by decide +kernel : decode (zmB 177) 34 = .ok (.goto (-30), 3)) (by decide)
theorem zr_177_37 : zSnd 177 37 (o_const (-1) 38) := zS_iconst (by decide +kernel) rfl (by decide)
theorem zr_177_38 : zSnd 177 38 (o_iret) := zS_iret (by decide +kernel) (by decide +kernel)
theorem zT_177 (pc : Nat) : zSnd 177 pc (zc_177 pc) := by
  unfold zc_177
  exact (zSn_nd (zSn_nd (zSn_nd (zSn_nd (zSn_lf zr_177_0) (zSn_nd (zSn_lf zr_177_1) (zSn_lf zr_177_2))) (zSn_nd (zSn_nd (zSn_lf zr_177_3) (zSn_lf zr_177_4)) (zSn_nd (zSn_lf zr_177_5) (zSn_lf zr_177_6)))) (zSn_nd (zSn_nd (zSn_nd (zSn_lf zr_177_7) (zSn_lf zr_177_8)) (zSn_nd (zSn_lf zr_177_9) (zSn_lf zr_177_10))) (zSn_nd (zSn_nd (zSn_lf zr_177_11) (zSn_lf zr_177_12)) (zSn_nd (zSn_lf zr_177_13) (zSn_lf zr_177_14))))) (zSn_nd (zSn_nd (zSn_nd (zSn_nd (zSn_lf zr_177_15) (zSn_lf zr_177_16)) (zSn_nd (zSn_lf zr_177_19) (zSn_lf zr_177_20))) (zSn_nd (zSn_nd (zSn_lf zr_177_21) (zSn_lf zr_177_22)) (zSn_nd (zSn_lf zr_177_23) (zSn_lf zr_177_24)))) (zSn_nd (zSn_nd (zSn_nd (zSn_lf zr_177_25) (zSn_lf zr_177_26)) (zSn_nd (zSn_lf zr_177_29) (zSn_lf zr_177_30))) (zSn_nd (zSn_nd (zSn_lf zr_177_31) (zSn_lf zr_177_34)) (zSn_nd (zSn_lf zr_177_37) (zSn_lf zr_177_38))))))
theorem zr_178_0 : zSnd 178 0 (o_iload 1 1) := zS_iload_n (i := 1) (by decide +kernel) rfl rfl
theorem zr_178_1 : zSnd 178 1 (o_istore 6 3) := zS_istore (by decide +kernel) rfl (by decide +kernel)
theorem zr_178_3 : zSnd 178 3 (o_iload 0 4) := zS_iload_n (i := 0) (by decide +kernel) rfl rfl
theorem zr_178_4 : zSnd 178 4 (o_const 4 5) := zS_iconst (by decide +kernel) rfl (by decide)
theorem zr_178_5 : zSnd 178 5 (o_irem 6) := zS_irem (by decide +kernel) rfl
theorem zr_178_6 : zSnd 178 6 (o_ifle 34 9) := zS_ifle (by decide +kernel : decode (zmB 178) 6 = .ok (.ifCond .le 28, 3)) rfl (by decide)
theorem zr_178_9 : zSnd 178 9 (o_iload 0 10) := zS_iload_n (i := 0) (by decide +kernel) rfl rfl
theorem zr_178_10 : zSnd 178 10 (o_const 1 11) := zS_iconst (by decide +kernel) rfl (by decide)
theorem zr_178_11 : zSnd 178 11 (o_isub 12) := zS_isub (by decide +kernel) rfl
theorem zr_178_12 : zSnd 178 12 (o_const 3 13) := zS_iconst (by decide +kernel) rfl (by decide)
theorem zr_178_13 : zSnd 178 13 (o_aload 4 15) := zS_aload (by decide +kernel) rfl
theorem zr_178_15 : zSnd 178 15 (o_call 173 3 3 1 18) := zS_callS (idx := 16) (by decide +kernel) rfl zq_208 zq_209 (by decide +kernel) zMk_173 (by decide +kernel) (by decide +kernel) (by decide +kernel)
theorem zr_178_18 : zSnd 178 18 (o_iload 6 20) := zS_iload (by decide +kernel) rfl
theorem zr_178_20 : zSnd 178 20 (o_cle 34 23) := zS_cle (by decide +kernel : decode (zmB 178) 20 = .ok (.if_icmp .le 14, 3)) rfl (by decide)
theorem zr_178_23 : zSnd 178 23 (o_iload 0 24) := zS_iload_n (i := 0) (by decide +kernel) rfl rfl
theorem zr_178_24 : zSnd 178 24 (o_const 1 25) := zS_iconst (by decide +kernel) rfl (by decide)
theorem zr_178_25 : zSnd 178 25 (o_isub 26) := zS_isub (by decide +kernel) rfl
theorem zr_178_26 : zSnd 178 26 (o_const 3 27) := zS_iconst (by decide +kernel) rfl (by decide)
theorem zr_178_27 : zSnd 178 27 (o_aload 4 29) := zS_aload (by decide +kernel) rfl
theorem zr_178_29 : zSnd 178 29 (o_call 173 3 3 1 32) := zS_callS (idx := 16) (by decide +kernel) rfl zq_208 zq_209 (by decide +kernel) zMk_173 (by decide +kernel) (by decide +kernel) (by decide +kernel)
theorem zr_178_32 : zSnd 178 32 (o_istore 6 34) := zS_istore (by decide +kernel) rfl (by decide +kernel)
theorem zr_178_34 : zSnd 178 34 (o_const 0 35) := zS_iconst (by decide +kernel) rfl (by decide)
theorem zr_178_35 : zSnd 178 35 (o_istore 7 37) := zS_istore (by decide +kernel) rfl (by decide +kernel)
theorem zr_178_37 : zSnd 178 37 (o_iload 7 39) := zS_iload (by decide +kernel) rfl
theorem zr_178_39 : zSnd 178 39 (o_const 12 41) := zS_bipush (by decide +kernel) rfl (by decide) (by decide)
theorem zr_178_41 : zSnd 178 41 (o_cge 115 44) := zS_cge (by decide +kernel : decode (zmB 178) 41 = .ok (.if_icmp .ge 74, 3)) rfl (by decide)
theorem zr_178_44 : zSnd 178 44 (o_iload 7 46) := zS_iload (by decide +kernel) rfl
theorem zr_178_46 : zSnd 178 46 (o_aload 3 47) := zS_aload_n (i := 3) (by decide +kernel) rfl rfl
theorem zr_178_47 : zSnd 178 47 (o_call 172 2 2 1 50) := zS_callS (idx := 20) (by decide +kernel) rfl zq_210 zq_211 (by decide +kernel) zMk_172 (by decide +kernel) (by decide +kernel) (by decide +kernel)
theorem zr_178_50 : zSnd 178 50 (o_ifeq 105 53) := zS_ifeq (by decide +kernel : decode (zmB 178) 50 = .ok (.ifCond .eq 55, 3)) rfl (by decide)
theorem zr_178_53 : zSnd 178 53 (o_aload 4 55) := zS_aload (by decide +kernel) rfl
theorem zr_178_55 : zSnd 178 55 (o_const 4 56) := zS_iconst (by decide +kernel) rfl (by decide)
theorem zr_178_56 : zSnd 178 56 (o_iload 7 58) := zS_iload (by decide +kernel) rfl
theorem zr_178_58 : zSnd 178 58 (o_imul 59) := zS_imul (by decide +kernel) rfl
theorem zr_178_59 : zSnd 178 59 (o_iald 60) := zS_iald (by decide +kernel) rfl
theorem zr_178_60 : zSnd 178 60 (o_aload 4 62) := zS_aload (by decide +kernel) rfl
theorem zr_178_62 : zSnd 178 62 (o_const 4 63) := zS_iconst (by decide +kernel) rfl (by decide)
theorem zr_178_63 : zSnd 178 63 (o_iload 0 64) := zS_iload_n (i := 0) (by decide +kernel) rfl rfl
theorem zr_178_64 : zSnd 178 64 (o_imul 65) := zS_imul (by decide +kernel) rfl
theorem zr_178_65 : zSnd 178 65 (o_iald 66) := zS_iald (by decide +kernel) rfl
theorem zr_178_66 : zSnd 178 66 (o_cne 105 69) := zS_cne (by decide +kernel : decode (zmB 178) 66 = .ok (.if_icmp .ne 39, 3)) rfl (by decide)
theorem zr_178_69 : zSnd 178 69 (o_aload 4 71) := zS_aload (by decide +kernel) rfl
theorem zr_178_71 : zSnd 178 71 (o_const 4 72) := zS_iconst (by decide +kernel) rfl (by decide)
theorem zr_178_72 : zSnd 178 72 (o_iload 7 74) := zS_iload (by decide +kernel) rfl
theorem zr_178_74 : zSnd 178 74 (o_imul 75) := zS_imul (by decide +kernel) rfl
theorem zr_178_75 : zSnd 178 75 (o_const 3 76) := zS_iconst (by decide +kernel) rfl (by decide)
theorem zr_178_76 : zSnd 178 76 (o_iadd 77) := zS_iadd (by decide +kernel) rfl
theorem zr_178_77 : zSnd 178 77 (o_iald 78) := zS_iald (by decide +kernel) rfl
theorem zr_178_78 : zSnd 178 78 (o_iflt 105 81) := zS_iflt (by decide +kernel : decode (zmB 178) 78 = .ok (.ifCond .lt 27, 3)) rfl (by decide)
theorem zr_178_81 : zSnd 178 81 (o_iload 7 83) := zS_iload (by decide +kernel) rfl
theorem zr_178_83 : zSnd 178 83 (o_const 3 84) := zS_iconst (by decide +kernel) rfl (by decide)
theorem zr_178_84 : zSnd 178 84 (o_aload 4 86) := zS_aload (by decide +kernel) rfl
theorem zr_178_86 : zSnd 178 86 (o_call 173 3 3 1 89) := zS_callS (idx := 16) (by decide +kernel) rfl zq_208 zq_209 (by decide +kernel) zMk_173 (by decide +kernel) (by decide +kernel) (by decide +kernel)
theorem zr_178_89 : zSnd 178 89 (o_iload 6 91) := zS_iload (by decide +kernel) rfl
theorem zr_178_91 : zSnd 178 91 (o_cle 105 94) := zS_cle (by decide +kernel : decode (zmB 178) 91 = .ok (.if_icmp .le 14, 3)) rfl (by decide)
theorem zr_178_94 : zSnd 178 94 (o_iload 7 96) := zS_iload (by decide +kernel) rfl
theorem zr_178_96 : zSnd 178 96 (o_const 3 97) := zS_iconst (by decide +kernel) rfl (by decide)
theorem zr_178_97 : zSnd 178 97 (o_aload 4 99) := zS_aload (by decide +kernel) rfl
theorem zr_178_99 : zSnd 178 99 (o_call 173 3 3 1 102) := zS_callS (idx := 16) (by decide +kernel) rfl zq_208 zq_209 (by decide +kernel) zMk_173 (by decide +kernel) (by decide +kernel) (by decide +kernel)
theorem zr_178_102 : zSnd 178 102 (o_goto 107) := zS_goto (by decide +kernel : decode (zmB 178) 102 = .ok (.goto 5, 3)) (by decide)
theorem zr_178_105 : zSnd 178 105 (o_iload 6 107) := zS_iload (by decide +kernel) rfl
theorem zr_178_107 : zSnd 178 107 (o_istore 6 109) := zS_istore (by decide +kernel) rfl (by decide +kernel)
theorem zr_178_109 : zSnd 178 109 (o_iinc 7 1 112) := zS_iinc (by decide +kernel) rfl (by decide +kernel)
theorem zr_178_112 : zSnd 178 112 (o_goto 37) := zS_goto (by decide +kernel : decode (zmB 178) 112 = .ok (.goto (-75), 3)) (by decide)
theorem zr_178_115 : zSnd 178 115 (o_iload 0 116) := zS_iload_n (i := 0) (by decide +kernel) rfl rfl
theorem zr_178_116 : zSnd 178 116 (o_iload 6 118) := zS_iload (by decide +kernel) rfl
theorem zr_178_118 : zSnd 178 118 (o_aload 2 119) := zS_aload_n (i := 2) (by decide +kernel) rfl rfl
theorem zr_178_119 : zSnd 178 119 (o_aload 4 121) := zS_aload (by decide +kernel) rfl
theorem zr_178_121 : zSnd 178 121 (o_aload 5 123) := zS_aload (by decide +kernel) rfl
theorem zr_178_123 : zSnd 178 123 (o_call 175 5 6 1 126) := zS_callS (idx := 24) (by decide +kernel) rfl zq_212 zq_213 (by decide +kernel) zMk_175 (by decide +kernel) (by decide +kernel) (by decide +kernel)
theorem zr_178_126 : zSnd 178 126 (o_iret) := zS_iret (by decide +kernel) (by decide +kernel)
theorem zT_178 (pc : Nat) : zSnd 178 pc (zc_178 pc) := by
  unfold zc_178
  exact (zSn_nd (zSn_nd (zSn_nd (zSn_nd (zSn_nd (zSn_nd (zSn_lf zr_178_0) (zSn_lf zr_178_1)) (zSn_nd (zSn_lf zr_178_3) (zSn_lf zr_178_4))) (zSn_nd (zSn_nd (zSn_lf zr_178_5) (zSn_lf zr_178_6)) (zSn_nd (zSn_lf zr_178_9) (zSn_lf zr_178_10)))) (zSn_nd (zSn_nd (zSn_nd (zSn_lf zr_178_11) (zSn_lf zr_178_12)) (zSn_nd (zSn_lf zr_178_13) (zSn_lf zr_178_15))) (zSn_nd (zSn_nd (zSn_lf zr_178_18) (zSn_lf zr_178_20)) (zSn_nd (zSn_lf zr_178_23) (zSn_nd (zSn_lf zr_178_24) (zSn_lf zr_178_25)))))) (zSn_nd (zSn_nd (zSn_nd (zSn_nd (zSn_lf zr_178_26) (zSn_lf zr_178_27)) (zSn_nd (zSn_lf zr_178_29) (zSn_lf zr_178_32))) (zSn_nd (zSn_nd (zSn_lf zr_178_34) (zSn_lf zr_178_35)) (zSn_nd (zSn_lf zr_178_37) (zSn_nd (zSn_lf zr_178_39) (zSn_lf zr_178_41))))) (zSn_nd (zSn_nd (zSn_nd (zSn_lf zr_178_44) (zSn_lf zr_178_46)) (zSn_nd (zSn_lf zr_178_47) (zSn_lf zr_178_50))) (zSn_nd (zSn_nd (zSn_lf zr_178_53) (zSn_lf zr_178_55)) (zSn_nd (zSn_lf zr_178_56) (zSn_nd (zSn_lf zr_178_58) (zSn_lf zr_178_59))))))) (zSn_nd (zSn_nd (zSn_nd (zSn_nd (zSn_nd (zSn_lf zr_178_60) (zSn_lf zr_178_62)) (zSn_nd (zSn_lf zr_178_63) (zSn_lf zr_178_64))) (zSn_nd (zSn_nd (zSn_lf zr_178_65) (zSn_lf zr_178_66)) (zSn_nd (zSn_lf zr_178_69) (zSn_nd (zSn_lf zr_178_71) (zSn_lf zr_178_72))))) (zSn_nd (zSn_nd (zSn_nd (zSn_lf zr_178_74) (zSn_lf zr_178_75)) (zSn_nd (zSn_lf zr_178_76) (zSn_lf zr_178_77))) (zSn_nd (zSn_nd (zSn_lf zr_178_78) (zSn_lf zr_178_81)) (zSn_nd (zSn_lf zr_178_83) (zSn_nd (zSn_lf zr_178_84) (zSn_lf zr_178_86)))))) (zSn_nd (zSn_nd (zSn_nd (zSn_nd (zSn_lf zr_178_89) (zSn_lf zr_178_91)) (zSn_nd (zSn_lf zr_178_94) (zSn_lf zr_178_96))) (zSn_nd (zSn_nd (zSn_lf zr_178_97) (zSn_lf zr_178_99)) (zSn_nd (zSn_lf zr_178_102) (zSn_nd (zSn_lf zr_178_105) (zSn_lf zr_178_107))))) (zSn_nd (zSn_nd (zSn_nd (zSn_lf zr_178_109) (zSn_lf zr_178_112)) (zSn_nd (zSn_lf zr_178_115) (zSn_lf zr_178_116))) (zSn_nd (zSn_nd (zSn_lf zr_178_118) (zSn_lf zr_178_119)) (zSn_nd (zSn_lf zr_178_121) (zSn_nd (zSn_lf zr_178_123) (zSn_lf zr_178_126))))))))
theorem zr_179_0 : zSnd 179 0 (o_const 0 1) := zS_iconst (by decide +kernel) rfl (by decide)
theorem zr_179_1 : zSnd 179 1 (o_istore 6 3) := zS_istore (by decide +kernel) rfl (by decide +kernel)
theorem zr_179_3 : zSnd 179 3 (o_iload 6 5) := zS_iload (by decide +kernel) rfl
theorem zr_179_5 : zSnd 179 5 (o_const 12 7) := zS_bipush (by decide +kernel) rfl (by decide) (by decide)
theorem zr_179_7 : zSnd 179 7 (o_cge 143 10) := zS_cge (by decide +kernel : decode (zmB 179) 7 = .ok (.if_icmp .ge 136, 3)) rfl (by decide)
theorem zr_179_10 : zSnd 179 10 (o_const (-1) 11) := zS_iconst (by decide +kernel) rfl (by decide)
theorem zr_179_11 : zSnd 179 11 (o_istore 7 13) := zS_istore (by decide +kernel) rfl (by decide +kernel)
theorem zr_179_13 : zSnd 179 13 (o_const 0 14) := zS_iconst (by decide +kernel) rfl (by decide)
theorem zr_179_14 : zSnd 179 14 (o_istore 8 16) := zS_istore (by decide +kernel) rfl (by decide +kernel)
theorem zr_179_16 : zSnd 179 16 (o_const 0 17) := zS_iconst (by decide +kernel) rfl (by decide)
theorem zr_179_17 : zSnd 179 17 (o_istore 9 19) := zS_istore (by decide +kernel) rfl (by decide +kernel)
theorem zr_179_19 : zSnd 179 19 (o_iload 9 21) := zS_iload (by decide +kernel) rfl
theorem zr_179_21 : zSnd 179 21 (o_const 3 22) := zS_iconst (by decide +kernel) rfl (by decide)
theorem zr_179_22 : zSnd 179 22 (o_cge 121 25) := zS_cge (by decide +kernel : decode (zmB 179) 22 = .ok (.if_icmp .ge 99, 3)) rfl (by decide)
theorem zr_179_25 : zSnd 179 25 (o_iload 9 27) := zS_iload (by decide +kernel) rfl
theorem zr_179_27 : zSnd 179 27 (o_aload 3 28) := zS_aload_n (i := 3) (by decide +kernel) rfl rfl
theorem zr_179_28 : zSnd 179 28 (o_aload 4 30) := zS_aload (by decide +kernel) rfl
theorem zr_179_30 : zSnd 179 30 (o_call 177 3 4 1 33) := zS_callS (idx := 28) (by decide +kernel) rfl zq_214 zq_215 (by decide +kernel) zMk_177 (by decide +kernel) (by decide +kernel) (by decide +kernel)
theorem zr_179_33 : zSnd 179 33 (o_istore 10 35) := zS_istore (by decide +kernel) rfl (by decide +kernel)
theorem zr_179_35 : zSnd 179 35 (o_iload 10 37) := zS_iload (by decide +kernel) rfl
theorem zr_179_37 : zSnd 179 37 (o_ifge 43 40) := zS_ifge (by decide +kernel : decode (zmB 179) 37 = .ok (.ifCond .ge 6, 3)) rfl (by decide)
theorem zr_179_40 : zSnd 179 40 (o_goto 115) := zS_goto (by decide +kernel : decode (zmB 179) 40 = .ok (.goto 75, 3)) (by decide)
theorem zr_179_43 : zSnd 179 43 (o_iload 10 45) := zS_iload (by decide +kernel) rfl
theorem zr_179_45 : zSnd 179 45 (o_iload 1 46) := zS_iload_n (i := 1) (by decide +kernel) rfl rfl
theorem zr_179_46 : zSnd 179 46 (o_aload 2 47) := zS_aload_n (i := 2) (by decide +kernel) rfl rfl
theorem zr_179_47 : zSnd 179 47 (o_aload 3 48) := zS_aload_n (i := 3) (by decide +kernel) rfl rfl
theorem zr_179_48 : zSnd 179 48 (o_aload 4 50) := zS_aload (by decide +kernel) rfl
theorem zr_179_50 : zSnd 179 50 (o_aload 5 52) := zS_aload (by decide +kernel) rfl
theorem zr_179_52 : zSnd 179 52 (o_call 178 6 8 1 55) := zS_callS (idx := 32) (by decide +kernel) rfl zq_216 zq_217 (by decide +kernel) zMk_178 (by decide +kernel) (by decide +kernel) (by decide +kernel)
theorem zr_179_55 : zSnd 179 55 (o_istore 11 57) := zS_istore (by decide +kernel) rfl (by decide +kernel)
theorem zr_179_57 : zSnd 179 57 (o_iload 7 59) := zS_iload (by decide +kernel) rfl
theorem zr_179_59 : zSnd 179 59 (o_ifge 66 62) := zS_ifge (by decide +kernel : decode (zmB 179) 59 = .ok (.ifCond .ge 7, 3)) rfl (by decide)
theorem zr_179_62 : zSnd 179 62 (o_const (-1) 63) := zS_iconst (by decide +kernel) rfl (by decide)
theorem zr_179_63 : zSnd 179 63 (o_goto 100) := zS_goto (by decide +kernel : decode (zmB 179) 63 = .ok (.goto 37, 3)) (by decide)
theorem zr_179_66 : zSnd 179 66 (o_iload 11 68) := zS_iload (by decide +kernel) rfl
theorem zr_179_68 : zSnd 179 68 (o_iload 8 70) := zS_iload (by decide +kernel) rfl
theorem zr_179_70 : zSnd 179 70 (o_ceq 81 73) := zS_ceq (by decide +kernel : decode (zmB 179) 70 = .ok (.if_icmp .eq 11, 3)) rfl (by decide)
theorem zr_179_73 : zSnd 179 73 (o_iload 11 75) := zS_iload (by decide +kernel) rfl
theorem zr_179_75 : zSnd 179 75 (o_iload 8 77) := zS_iload (by decide +kernel) rfl
theorem zr_179_77 : zSnd 179 77 (o_isub 78) := zS_isub (by decide +kernel) rfl
theorem zr_179_78 : zSnd 179 78 (o_goto 100) := zS_goto (by decide +kernel : decode (zmB 179) 78 = .ok (.goto 22, 3)) (by decide)
theorem zr_179_81 : zSnd 179 81 (o_iload 10 83) := zS_iload (by decide +kernel) rfl
theorem zr_179_83 : zSnd 179 83 (o_iload 0 84) := zS_iload_n (i := 0) (by decide +kernel) rfl rfl
theorem zr_179_84 : zSnd 179 84 (o_aload 3 85) := zS_aload_n (i := 3) (by decide +kernel) rfl rfl
theorem zr_179_85 : zSnd 179 85 (o_aload 4 87) := zS_aload (by decide +kernel) rfl
theorem zr_179_87 : zSnd 179 87 (o_call 176 4 5 1 90) := zS_callS (idx := 36) (by decide +kernel) rfl zq_218 zq_219 (by decide +kernel) zMk_176 (by decide +kernel) (by decide +kernel) (by decide +kernel)
theorem zr_179_90 : zSnd 179 90 (o_iload 7 92) := zS_iload (by decide +kernel) rfl
theorem zr_179_92 : zSnd 179 92 (o_iload 0 93) := zS_iload_n (i := 0) (by decide +kernel) rfl rfl
theorem zr_179_93 : zSnd 179 93 (o_aload 3 94) := zS_aload_n (i := 3) (by decide +kernel) rfl rfl
theorem zr_179_94 : zSnd 179 94 (o_aload 4 96) := zS_aload (by decide +kernel) rfl
theorem zr_179_96 : zSnd 179 96 (o_call 176 4 5 1 99) := zS_callS (idx := 36) (by decide +kernel) rfl zq_218 zq_219 (by decide +kernel) zMk_176 (by decide +kernel) (by decide +kernel) (by decide +kernel)
theorem zr_179_99 : zSnd 179 99 (o_isub 100) := zS_isub (by decide +kernel) rfl
theorem zr_179_100 : zSnd 179 100 (o_istore 12 102) := zS_istore (by decide +kernel) rfl (by decide +kernel)
theorem zr_179_102 : zSnd 179 102 (o_iload 12 104) := zS_iload (by decide +kernel) rfl
theorem zr_179_104 : zSnd 179 104 (o_ifge 115 107) := zS_ifge (by decide +kernel : decode (zmB 179) 104 = .ok (.ifCond .ge 11, 3)) rfl (by decide)
theorem zr_179_107 : zSnd 179 107 (o_iload 10 109) := zS_iload (by decide +kernel) rfl
theorem zr_179_109 : zSnd 179 109 (o_istore 7 111) := zS_istore (by decide +kernel) rfl (by decide +kernel)
theorem zr_179_111 : zSnd 179 111 (o_iload 11 113) := zS_iload (by decide +kernel) rfl
theorem zr_179_113 : zSnd 179 113 (o_istore 8 115) := zS_istore (by decide +kernel) rfl (by decide +kernel)
theorem zr_179_115 : zSnd 179 115 (o_iinc 9 1 118) := zS_iinc (by decide +kernel) rfl (by decide +kernel)
theorem zr_179_118 : zSnd 179 118 (o_goto 19) := zS_goto (by decide +kernel : decode (zmB 179) 118 = .ok (.goto (-99), 3)) (by decide)
theorem zr_179_121 : zSnd 179 121 (o_iload 7 123) := zS_iload (by decide +kernel) rfl
theorem zr_179_123 : zSnd 179 123 (o_iflt 137 126) := zS_iflt (by decide +kernel : decode (zmB 179) 123 = .ok (.ifCond .lt 14, 3)) rfl (by decide)
theorem zr_179_126 : zSnd 179 126 (o_aload 4 128) := zS_aload (by decide +kernel) rfl
theorem zr_179_128 : zSnd 179 128 (o_const 4 129) := zS_iconst (by decide +kernel) rfl (by decide)
theorem zr_179_129 : zSnd 179 129 (o_iload 7 131) := zS_iload (by decide +kernel) rfl
theorem zr_179_131 : zSnd 179 131 (o_imul 132) := zS_imul (by decide +kernel) rfl
theorem zr_179_132 : zSnd 179 132 (o_const 3 133) := zS_iconst (by decide +kernel) rfl (by decide)
theorem zr_179_133 : zSnd 179 133 (o_iadd 134) := zS_iadd (by decide +kernel) rfl
theorem zr_179_134 : zSnd 179 134 (o_iload 8 136) := zS_iload (by decide +kernel) rfl
theorem zr_179_136 : zSnd 179 136 (o_iast 137) := zS_iast (by decide +kernel) rfl
theorem zr_179_137 : zSnd 179 137 (o_iinc 6 1 140) := zS_iinc (by decide +kernel) rfl (by decide +kernel)
theorem zr_179_140 : zSnd 179 140 (o_goto 3) := zS_goto (by decide +kernel : decode (zmB 179) 140 = .ok (.goto (-137), 3)) (by decide)
theorem zr_179_143 : zSnd 179 143 (o_ret) := zS_ret (by decide +kernel) (by decide +kernel)
theorem zT_179 (pc : Nat) : zSnd 179 pc (zc_179 pc) := by
  unfold zc_179
  exact (zSn_nd (zSn_nd (zSn_nd (zSn_nd (zSn_nd (zSn_nd (zSn_lf zr_179_0) (zSn_lf zr_179_1)) (zSn_nd (zSn_lf zr_179_3) (zSn_lf zr_179_5))) (zSn_nd (zSn_nd (zSn_lf zr_179_7) (zSn_lf zr_179_10)) (zSn_nd (zSn_lf zr_179_11) (zSn_nd (zSn_lf zr_179_13) (zSn_lf zr_179_14))))) (zSn_nd (zSn_nd (zSn_nd (zSn_lf zr_179_16) (zSn_lf zr_179_17)) (zSn_nd (zSn_lf zr_179_19) (zSn_lf zr_179_21))) (zSn_nd (zSn_nd (zSn_lf zr_179_22) (zSn_lf zr_179_25)) (zSn_nd (zSn_lf zr_179_27) (zSn_nd (zSn_lf zr_179_28) (zSn_lf zr_179_30)))))) (zSn_nd (zSn_nd (zSn_nd (zSn_nd (zSn_lf zr_179_33) (zSn_lf zr_179_35)) (zSn_nd (zSn_lf zr_179_37) (zSn_lf zr_179_40))) (zSn_nd (zSn_nd (zSn_lf zr_179_43) (zSn_lf zr_179_45)) (zSn_nd (zSn_lf zr_179_46) (zSn_nd (zSn_lf zr_179_47) (zSn_lf zr_179_48))))) (zSn_nd (zSn_nd (zSn_nd (zSn_lf zr_179_50) (zSn_lf zr_179_52)) (zSn_nd (zSn_lf zr_179_55) (zSn_nd (zSn_lf zr_179_57) (zSn_lf zr_179_59)))) (zSn_nd (zSn_nd (zSn_lf zr_179_62) (zSn_lf zr_179_63)) (zSn_nd (zSn_lf zr_179_66) (zSn_nd (zSn_lf zr_179_68) (zSn_lf zr_179_70))))))) (zSn_nd (zSn_nd (zSn_nd (zSn_nd (zSn_nd (zSn_lf zr_179_73) (zSn_lf zr_179_75)) (zSn_nd (zSn_lf zr_179_77) (zSn_lf zr_179_78))) (zSn_nd (zSn_nd (zSn_lf zr_179_81) (zSn_lf zr_179_83)) (zSn_nd (zSn_lf zr_179_84) (zSn_nd (zSn_lf zr_179_85) (zSn_lf zr_179_87))))) (zSn_nd (zSn_nd (zSn_nd (zSn_lf zr_179_90) (zSn_lf zr_179_92)) (zSn_nd (zSn_lf zr_179_93) (zSn_lf zr_179_94))) (zSn_nd (zSn_nd (zSn_lf zr_179_96) (zSn_lf zr_179_99)) (zSn_nd (zSn_lf zr_179_100) (zSn_nd (zSn_lf zr_179_102) (zSn_lf zr_179_104)))))) (zSn_nd (zSn_nd (zSn_nd (zSn_nd (zSn_lf zr_179_107) (zSn_lf zr_179_109)) (zSn_nd (zSn_lf zr_179_111) (zSn_lf zr_179_113))) (zSn_nd (zSn_nd (zSn_lf zr_179_115) (zSn_lf zr_179_118)) (zSn_nd (zSn_lf zr_179_121) (zSn_nd (zSn_lf zr_179_123) (zSn_lf zr_179_126))))) (zSn_nd (zSn_nd (zSn_nd (zSn_lf zr_179_128) (zSn_lf zr_179_129)) (zSn_nd (zSn_lf zr_179_131) (zSn_nd (zSn_lf zr_179_132) (zSn_lf zr_179_133)))) (zSn_nd (zSn_nd (zSn_lf zr_179_134) (zSn_lf zr_179_136)) (zSn_nd (zSn_lf zr_179_137) (zSn_nd (zSn_lf zr_179_140) (zSn_lf zr_179_143))))))))
theorem zr_180_0 : zSnd 180 0 (o_const 0 1) := zS_iconst (by decide +kernel) rfl (by decide)
theorem zr_180_1 : zSnd 180 1 (o_istore 3 2) := zS_istore_n (i := 3) (by decide +kernel) rfl rfl (by decide +kernel)
theorem zr_180_2 : zSnd 180 2 (o_const 0 3) := zS_iconst (by decide +kernel) rfl (by decide)
theorem zr_180_3 : zSnd 180 3 (o_istore 4 5) := zS_istore (by decide +kernel) rfl (by decide +kernel)
theorem zr_180_5 : zSnd 180 5 (o_iload 4 7) := zS_iload (by decide +kernel) rfl
theorem zr_180_7 : zSnd 180 7 (o_const 3 8) := zS_iconst (by decide +kernel) rfl (by decide)
theorem zr_180_8 : zSnd 180 8 (o_cge 82 11) := zS_cge (by decide +kernel : decode (zmB 180) 8 = .ok (.if_icmp .ge 74, 3)) rfl (by decide)
theorem zr_180_11 : zSnd 180 11 (o_aload 1 12) := zS_aload_n (i := 1) (by decide +kernel) rfl rfl
theorem zr_180_12 : zSnd 180 12 (o_const 3 13) := zS_iconst (by decide +kernel) rfl (by decide)
theorem zr_180_13 : zSnd 180 13 (o_iload 4 15) := zS_iload (by decide +kernel) rfl
theorem zr_180_15 : zSnd 180 15 (o_imul 16) := zS_imul (by decide +kernel) rfl
theorem zr_180_16 : zSnd 180 16 (o_const 2 17) := zS_iconst (by decide +kernel) rfl (by decide)
theorem zr_180_17 : zSnd 180 17 (o_iadd 18) := zS_iadd (by decide +kernel) rfl
theorem zr_180_18 : zSnd 180 18 (o_iald 19) := zS_iald (by decide +kernel) rfl
theorem zr_180_19 : zSnd 180 19 (o_istore 5 21) := zS_istore (by decide +kernel) rfl (by decide +kernel)
theorem zr_180_21 : zSnd 180 21 (o_iload 5 23) := zS_iload (by decide +kernel) rfl
theorem zr_180_23 : zSnd 180 23 (o_ifne 30 26) := zS_ifne (by decide +kernel : decode (zmB 180) 23 = .ok (.ifCond .ne 7, 3)) rfl (by decide)
theorem zr_180_26 : zSnd 180 26 (o_const 0 27) := zS_iconst (by decide +kernel) rfl (by decide)
theorem zr_180_27 : zSnd 180 27 (o_goto 53) := zS_goto (by decide +kernel : decode (zmB 180) 27 = .ok (.goto 26, 3)) (by decide)
theorem zr_180_30 : zSnd 180 30 (o_const 4 31) := zS_iconst (by decide +kernel) rfl (by decide)
theorem zr_180_31 : zSnd 180 31 (o_iload 4 33) := zS_iload (by decide +kernel) rfl
theorem zr_180_33 : zSnd 180 33 (o_imul 34) := zS_imul (by decide +kernel) rfl
theorem zr_180_34 : zSnd 180 34 (o_iload 5 36) := zS_iload (by decide +kernel) rfl
theorem zr_180_36 : zSnd 180 36 (o_iadd 37) := zS_iadd (by decide +kernel) rfl
theorem zr_180_37 : zSnd 180 37 (o_const 1 38) := zS_iconst (by decide +kernel) rfl (by decide)
theorem zr_180_38 : zSnd 180 38 (o_isub 39) := zS_isub (by decide +kernel) rfl
theorem zr_180_39 : zSnd 180 39 (o_iload 0 40) := zS_iload_n (i := 0) (by decide +kernel) rfl rfl
theorem zr_180_40 : zSnd 180 40 (o_aload 2 41) := zS_aload_n (i := 2) (by decide +kernel) rfl rfl
theorem zr_180_41 : zSnd 180 41 (o_call 173 3 3 1 44) := zS_callS (idx := 16) (by decide +kernel) rfl zq_208 zq_209 (by decide +kernel) zMk_173 (by decide +kernel) (by decide +kernel) (by decide +kernel)
theorem zr_180_44 : zSnd 180 44 (o_aload 1 45) := zS_aload_n (i := 1) (by decide +kernel) rfl rfl
theorem zr_180_45 : zSnd 180 45 (o_const 3 46) := zS_iconst (by decide +kernel) rfl (by decide)
theorem zr_180_46 : zSnd 180 46 (o_iload 4 48) := zS_iload (by decide +kernel) rfl
theorem zr_180_48 : zSnd 180 48 (o_imul 49) := zS_imul (by decide +kernel) rfl
theorem zr_180_49 : zSnd 180 49 (o_const 1 50) := zS_iconst (by decide +kernel) rfl (by decide)
theorem zr_180_50 : zSnd 180 50 (o_iadd 51) := zS_iadd (by decide +kernel) rfl
theorem zr_180_51 : zSnd 180 51 (o_iald 52) := zS_iald (by decide +kernel) rfl
theorem zr_180_52 : zSnd 180 52 (o_isub 53) := zS_isub (by decide +kernel) rfl
theorem zr_180_53 : zSnd 180 53 (o_istore 6 55) := zS_istore (by decide +kernel) rfl (by decide +kernel)
theorem zr_180_55 : zSnd 180 55 (o_iload 3 56) := zS_iload_n (i := 3) (by decide +kernel) rfl rfl
theorem zr_180_56 : zSnd 180 56 (o_iload 6 58) := zS_iload (by decide +kernel) rfl
theorem zr_180_58 : zSnd 180 58 (o_ifle 73 61) := zS_ifle (by decide +kernel : decode (zmB 180) 58 = .ok (.ifCond .le 15, 3)) rfl (by decide)
theorem zr_180_61 : zSnd 180 61 (o_aload 1 62) := zS_aload_n (i := 1) (by decide +kernel) rfl rfl
theorem zr_180_62 : zSnd 180 62 (o_const 3 63) := zS_iconst (by decide +kernel) rfl (by decide)
theorem zr_180_63 : zSnd 180 63 (o_iload 4 65) := zS_iload (by decide +kernel) rfl
theorem zr_180_65 : zSnd 180 65 (o_imul 66) := zS_imul (by decide +kernel) rfl
theorem zr_180_66 : zSnd 180 66 (o_iald 67) := zS_iald (by decide +kernel) rfl
theorem zr_180_67 : zSnd 180 67 (o_iload 6 69) := zS_iload (by decide +kernel) rfl
theorem zr_180_69 : zSnd 180 69 (o_imul 70) := zS_imul (by decide +kernel) rfl
theorem zr_180_70 : zSnd 180 70 (o_goto 74) := zS_goto (by decide +kernel : decode (zmB 180) 70 = .ok (.goto 4, 3)) (by decide)
theorem zr_180_73 : zSnd 180 73 (o_const 0 74) := zS_iconst (by decide +kernel) rfl (by decide)
theorem zr_180_74 : zSnd 180 74 (o_iadd 75) := zS_iadd (by decide +kernel) rfl
theorem zr_180_75 : zSnd 180 75 (o_istore 3 76) := zS_istore_n (i := 3) (by decide +kernel) rfl rfl (by decide +kernel)
theorem zr_180_76 : zSnd 180 76 (o_iinc 4 1 79) := zS_iinc (by decide +kernel) rfl (by decide +kernel)
theorem zr_180_79 : zSnd 180 79 (o_goto 5) := zS_goto (by decide +kernel : decode (zmB 180) 79 = .ok (.goto (-74), 3)) (by decide)
theorem zr_180_82 : zSnd 180 82 (o_iload 3 83) := zS_iload_n (i := 3) (by decide +kernel) rfl rfl
theorem zr_180_83 : zSnd 180 83 (o_iret) := zS_iret (by decide +kernel) (by decide +kernel)
theorem zT_180 (pc : Nat) : zSnd 180 pc (zc_180 pc) := by
  unfold zc_180
  exact (zSn_nd (zSn_nd (zSn_nd (zSn_nd (zSn_nd (zSn_lf zr_180_0) (zSn_nd (zSn_lf zr_180_1) (zSn_lf zr_180_2))) (zSn_nd (zSn_nd (zSn_lf zr_180_3) (zSn_lf zr_180_5)) (zSn_nd (zSn_lf zr_180_7) (zSn_lf zr_180_8)))) (zSn_nd (zSn_nd (zSn_lf zr_180_11) (zSn_nd (zSn_lf zr_180_12) (zSn_lf zr_180_13))) (zSn_nd (zSn_nd (zSn_lf zr_180_15) (zSn_lf zr_180_16)) (zSn_nd (zSn_lf zr_180_17) (zSn_lf zr_180_18))))) (zSn_nd (zSn_nd (zSn_nd (zSn_lf zr_180_19) (zSn_nd (zSn_lf zr_180_21) (zSn_lf zr_180_23))) (zSn_nd (zSn_nd (zSn_lf zr_180_26) (zSn_lf zr_180_27)) (zSn_nd (zSn_lf zr_180_30) (zSn_lf zr_180_31)))) (zSn_nd (zSn_nd (zSn_lf zr_180_33) (zSn_nd (zSn_lf zr_180_34) (zSn_lf zr_180_36))) (zSn_nd (zSn_nd (zSn_lf zr_180_37) (zSn_lf zr_180_38)) (zSn_nd (zSn_lf zr_180_39) (zSn_lf zr_180_40)))))) (zSn_nd (zSn_nd (zSn_nd (zSn_nd (zSn_lf zr_180_41) (zSn_nd (zSn_lf zr_180_44) (zSn_lf zr_180_45))) (zSn_nd (zSn_nd (zSn_lf zr_180_46) (zSn_lf zr_180_48)) (zSn_nd (zSn_lf zr_180_49) (zSn_lf zr_180_50)))) (zSn_nd (zSn_nd (zSn_lf zr_180_51) (zSn_nd (zSn_lf zr_180_52) (zSn_lf zr_180_53))) (zSn_nd (zSn_nd (zSn_lf zr_180_55) (zSn_lf zr_180_56)) (zSn_nd (zSn_lf zr_180_58) (zSn_lf zr_180_61))))) (zSn_nd (zSn_nd (zSn_nd (zSn_lf zr_180_62) (zSn_nd (zSn_lf zr_180_63) (zSn_lf zr_180_65))) (zSn_nd (zSn_nd (zSn_lf zr_180_66) (zSn_lf zr_180_67)) (zSn_nd (zSn_lf zr_180_69) (zSn_lf zr_180_70)))) (zSn_nd (zSn_nd (zSn_lf zr_180_73) (zSn_nd (zSn_lf zr_180_74) (zSn_lf zr_180_75))) (zSn_nd (zSn_nd (zSn_lf zr_180_76) (zSn_lf zr_180_79)) (zSn_nd (zSn_lf zr_180_82) (zSn_lf zr_180_83)))))))
theorem zr_181_0 : zSnd 181 0 (o_const 0 1) := zS_iconst (by decide +kernel) rfl (by decide)
theorem zr_181_1 : zSnd 181 1 (o_istore 5 3) := zS_istore (by decide +kernel) rfl (by decide +kernel)
theorem zr_181_3 : zSnd 181 3 (o_iload 5 5) := zS_iload (by decide +kernel) rfl
theorem zr_181_5 : zSnd 181 5 (o_const 12 7) := zS_bipush (by decide +kernel) rfl (by decide) (by decide)
theorem zr_181_7 : zSnd 181 7 (o_cge 25 10) := zS_cge (by decide +kernel : decode (zmB 181) 7 = .ok (.if_icmp .ge 18, 3)) rfl (by decide)
theorem zr_181_10 : zSnd 181 10 (o_aload 3 11) := zS_aload_n (i := 3) (by decide +kernel) rfl rfl
theorem zr_181_11 : zSnd 181 11 (o_const 4 12) := zS_iconst (by decide +kernel) rfl (by decide)
theorem zr_181_12 : zSnd 181 12 (o_iload 5 14) := zS_iload (by decide +kernel) rfl
theorem zr_181_14 : zSnd 181 14 (o_imul 15) := zS_imul (by decide +kernel) rfl
theorem zr_181_15 : zSnd 181 15 (o_const 3 16) := zS_iconst (by decide +kernel) rfl (by decide)
theorem zr_181_16 : zSnd 181 16 (o_iadd 17) := zS_iadd (by decide +kernel) rfl
theorem zr_181_17 : zSnd 181 17 (o_const (-1) 18) := zS_iconst (by decide +kernel) rfl (by decide)
theorem zr_181_18 : zSnd 181 18 (o_iast 19) := zS_iast (by decide +kernel) rfl
theorem zr_181_19 : zSnd 181 19 (o_iinc 5 1 22) := zS_iinc (by decide +kernel) rfl (by decide +kernel)
theorem zr_181_22 : zSnd 181 22 (o_goto 3) := zS_goto (by decide +kernel : decode (zmB 181) 22 = .ok (.goto (-19), 3)) (by decide)
theorem zr_181_25 : zSnd 181 25 (o_iload 0 26) := zS_iload_n (i := 0) (by decide +kernel) rfl rfl
theorem zr_181_26 : zSnd 181 26 (o_const 0 27) := zS_iconst (by decide +kernel) rfl (by decide)
theorem zr_181_27 : zSnd 181 27 (o_aload 1 28) := zS_aload_n (i := 1) (by decide +kernel) rfl rfl
theorem zr_181_28 : zSnd 181 28 (o_aload 2 29) := zS_aload_n (i := 2) (by decide +kernel) rfl rfl
theorem zr_181_29 : zSnd 181 29 (o_aload 3 30) := zS_aload_n (i := 3) (by decide +kernel) rfl rfl
theorem zr_181_30 : zSnd 181 30 (o_aload 4 32) := zS_aload (by decide +kernel) rfl
theorem zr_181_32 : zSnd 181 32 (o_call 179 6 13 0 35) := zS_callS (idx := 40) (by decide +kernel) rfl zq_220 zq_221 (by decide +kernel) zMk_179 (by decide +kernel) (by decide +kernel) (by decide +kernel)
theorem zr_181_35 : zSnd 181 35 (o_const 0 36) := zS_iconst (by decide +kernel) rfl (by decide)
theorem zr_181_36 : zSnd 181 36 (o_istore 5 38) := zS_istore (by decide +kernel) rfl (by decide +kernel)
theorem zr_181_38 : zSnd 181 38 (o_iload 5 40) := zS_iload (by decide +kernel) rfl
theorem zr_181_40 : zSnd 181 40 (o_const 12 42) := zS_bipush (by decide +kernel) rfl (by decide) (by decide)
theorem zr_181_42 : zSnd 181 42 (o_cge 67 45) := zS_cge (by decide +kernel : decode (zmB 181) 42 = .ok (.if_icmp .ge 25, 3)) rfl (by decide)
theorem zr_181_45 : zSnd 181 45 (o_aload 3 46) := zS_aload_n (i := 3) (by decide +kernel) rfl rfl
theorem zr_181_46 : zSnd 181 46 (o_const 4 47) := zS_iconst (by decide +kernel) rfl (by decide)
theorem zr_181_47 : zSnd 181 47 (o_iload 5 49) := zS_iload (by decide +kernel) rfl
theorem zr_181_49 : zSnd 181 49 (o_imul 50) := zS_imul (by decide +kernel) rfl
theorem zr_181_50 : zSnd 181 50 (o_const 2 51) := zS_iconst (by decide +kernel) rfl (by decide)
theorem zr_181_51 : zSnd 181 51 (o_iadd 52) := zS_iadd (by decide +kernel) rfl
theorem zr_181_52 : zSnd 181 52 (o_aload 3 53) := zS_aload_n (i := 3) (by decide +kernel) rfl rfl
theorem zr_181_53 : zSnd 181 53 (o_const 4 54) := zS_iconst (by decide +kernel) rfl (by decide)
theorem zr_181_54 : zSnd 181 54 (o_iload 5 56) := zS_iload (by decide +kernel) rfl
theorem zr_181_56 : zSnd 181 56 (o_imul 57) := zS_imul (by decide +kernel) rfl
theorem zr_181_57 : zSnd 181 57 (o_const 3 58) := zS_iconst (by decide +kernel) rfl (by decide)
theorem zr_181_58 : zSnd 181 58 (o_iadd 59) := zS_iadd (by decide +kernel) rfl
theorem zr_181_59 : zSnd 181 59 (o_iald 60) := zS_iald (by decide +kernel) rfl
theorem zr_181_60 : zSnd 181 60 (o_iast 61) := zS_iast (by decide +kernel) rfl
theorem zr_181_61 : zSnd 181 61 (o_iinc 5 1 64) := zS_iinc (by decide +kernel) rfl (by decide +kernel)
theorem zr_181_64 : zSnd 181 64 (o_goto 38) := zS_goto (by decide +kernel : decode (zmB 181) 64 = .ok (.goto (-26), 3)) (by decide)
theorem zr_181_67 : zSnd 181 67 (o_aload 1 68) := zS_aload_n (i := 1) (by decide +kernel) rfl rfl
theorem zr_181_68 : zSnd 181 68 (o_const 1 69) := zS_iconst (by decide +kernel) rfl (by decide)
theorem zr_181_69 : zSnd 181 69 (o_const 1 70) := zS_iconst (by decide +kernel) rfl (by decide)
theorem zr_181_70 : zSnd 181 70 (o_iast 71) := zS_iast (by decide +kernel) rfl
theorem zr_181_71 : zSnd 181 71 (o_ret) := zS_ret (by decide +kernel) (by decide +kernel)
theorem zT_181 (pc : Nat) : zSnd 181 pc (zc_181 pc) := by
  unfold zc_181
  exact (zSn_nd (zSn_nd (zSn_nd (zSn_nd (zSn_nd (zSn_lf zr_181_0) (zSn_nd (zSn_lf zr_181_1) (zSn_lf zr_181_3))) (zSn_nd (zSn_lf zr_181_5) (zSn_nd (zSn_lf zr_181_7) (zSn_lf zr_181_10)))) (zSn_nd (zSn_nd (zSn_lf zr_181_11) (zSn_nd (zSn_lf zr_181_12) (zSn_lf zr_181_14))) (zSn_nd (zSn_lf zr_181_15) (zSn_nd (zSn_lf zr_181_16) (zSn_lf zr_181_17))))) (zSn_nd (zSn_nd (zSn_nd (zSn_lf zr_181_18) (zSn_nd (zSn_lf zr_181_19) (zSn_lf zr_181_22))) (zSn_nd (zSn_lf zr_181_25) (zSn_nd (zSn_lf zr_181_26) (zSn_lf zr_181_27)))) (zSn_nd (zSn_nd (zSn_lf zr_181_28) (zSn_nd (zSn_lf zr_181_29) (zSn_lf zr_181_30))) (zSn_nd (zSn_lf zr_181_32) (zSn_nd (zSn_lf zr_181_35) (zSn_lf zr_181_36)))))) (zSn_nd (zSn_nd (zSn_nd (zSn_nd (zSn_lf zr_181_38) (zSn_nd (zSn_lf zr_181_40) (zSn_lf zr_181_42))) (zSn_nd (zSn_lf zr_181_45) (zSn_nd (zSn_lf zr_181_46) (zSn_lf zr_181_47)))) (zSn_nd (zSn_nd (zSn_lf zr_181_49) (zSn_nd (zSn_lf zr_181_50) (zSn_lf zr_181_51))) (zSn_nd (zSn_lf zr_181_52) (zSn_nd (zSn_lf zr_181_53) (zSn_lf zr_181_54))))) (zSn_nd (zSn_nd (zSn_nd (zSn_lf zr_181_56) (zSn_nd (zSn_lf zr_181_57) (zSn_lf zr_181_58))) (zSn_nd (zSn_lf zr_181_59) (zSn_nd (zSn_lf zr_181_60) (zSn_lf zr_181_61)))) (zSn_nd (zSn_nd (zSn_lf zr_181_64) (zSn_nd (zSn_lf zr_181_67) (zSn_lf zr_181_68))) (zSn_nd (zSn_lf zr_181_69) (zSn_nd (zSn_lf zr_181_70) (zSn_lf zr_181_71)))))))
theorem zr_182_0 : zSnd 182 0 (o_const 0 1) := zS_iconst (by decide +kernel) rfl (by decide)
theorem zr_182_1 : zSnd 182 1 (o_istore 4 3) := zS_istore (by decide +kernel) rfl (by decide +kernel)
theorem zr_182_3 : zSnd 182 3 (o_iload 4 5) := zS_iload (by decide +kernel) rfl
theorem zr_182_5 : zSnd 182 5 (o_const 12 7) := zS_bipush (by decide +kernel) rfl (by decide) (by decide)
theorem zr_182_7 : zSnd 182 7 (o_cge 32 10) := zS_cge (by decide +kernel : decode (zmB 182) 7 = .ok (.if_icmp .ge 25, 3)) rfl (by decide)
theorem zr_182_10 : zSnd 182 10 (o_aload 2 11) := zS_aload_n (i := 2) (by decide +kernel) rfl rfl
theorem zr_182_11 : zSnd 182 11 (o_const 4 12) := zS_iconst (by decide +kernel) rfl (by decide)
theorem zr_182_12 : zSnd 182 12 (o_iload 4 14) := zS_iload (by decide +kernel) rfl
theorem zr_182_14 : zSnd 182 14 (o_imul 15) := zS_imul (by decide +kernel) rfl
theorem zr_182_15 : zSnd 182 15 (o_const 3 16) := zS_iconst (by decide +kernel) rfl (by decide)
theorem zr_182_16 : zSnd 182 16 (o_iadd 17) := zS_iadd (by decide +kernel) rfl
theorem zr_182_17 : zSnd 182 17 (o_aload 2 18) := zS_aload_n (i := 2) (by decide +kernel) rfl rfl
theorem zr_182_18 : zSnd 182 18 (o_const 4 19) := zS_iconst (by decide +kernel) rfl (by decide)
theorem zr_182_19 : zSnd 182 19 (o_iload 4 21) := zS_iload (by decide +kernel) rfl
theorem zr_182_21 : zSnd 182 21 (o_imul 22) := zS_imul (by decide +kernel) rfl
theorem zr_182_22 : zSnd 182 22 (o_const 2 23) := zS_iconst (by decide +kernel) rfl (by decide)
theorem zr_182_23 : zSnd 182 23 (o_iadd 24) := zS_iadd (by decide +kernel) rfl
theorem zr_182_24 : zSnd 182 24 (o_iald 25) := zS_iald (by decide +kernel) rfl
theorem zr_182_25 : zSnd 182 25 (o_iast 26) := zS_iast (by decide +kernel) rfl
theorem zr_182_26 : zSnd 182 26 (o_iinc 4 1 29) := zS_iinc (by decide +kernel) rfl (by decide +kernel)
theorem zr_182_29 : zSnd 182 29 (o_goto 3) := zS_goto (by decide +kernel : decode (zmB 182) 29 = .ok (.goto (-26), 3)) (by decide)
theorem zr_182_32 : zSnd 182 32 (o_const 1 33) := zS_iconst (by decide +kernel) rfl (by decide)
theorem zr_182_33 : zSnd 182 33 (o_istore 4 35) := zS_istore (by decide +kernel) rfl (by decide +kernel)
theorem zr_182_35 : zSnd 182 35 (o_iload 4 37) := zS_iload (by decide +kernel) rfl
theorem zr_182_37 : zSnd 182 37 (o_ifeq 246 40) := zS_ifeq (by decide +kernel : decode (zmB 182) 37 = .ok (.ifCond .eq 209, 3)) rfl (by decide)
theorem zr_182_40 : zSnd 182 40 (o_const 0 41) := zS_iconst (by decide +kernel) rfl (by decide)
theorem zr_182_41 : zSnd 182 41 (o_istore 4 43) := zS_istore (by decide +kernel) rfl (by decide +kernel)
theorem zr_182_43 : zSnd 182 43 (o_const 0 44) := zS_iconst (by decide +kernel) rfl (by decide)
theorem zr_182_44 : zSnd 182 44 (o_istore 5 46) := zS_istore (by decide +kernel) rfl (by decide +kernel)
theorem zr_182_46 : zSnd 182 46 (o_iload 5 48) := zS_iload (by decide +kernel) rfl
theorem zr_182_48 : zSnd 182 48 (o_const 12 50) := zS_bipush (by decide +kernel) rfl (by decide) (by decide)
theorem zr_182_50 : zSnd 182 50 (o_cge 243 53) := zS_cge (by decide +kernel : decode (zmB 182) 50 = .ok (.if_icmp .ge 193, 3)) rfl (by decide)
theorem zr_182_53 : zSnd 182 53 (o_iload 5 55) := zS_iload (by decide +kernel) rfl
theorem zr_182_55 : zSnd 182 55 (o_aload 1 56) := zS_aload_n (i := 1) (by decide +kernel) rfl rfl
theorem zr_182_56 : zSnd 182 56 (o_call 172 2 2 1 59) := zS_callS (idx := 20) (by decide +kernel) rfl zq_210 zq_211 (by decide +kernel) zMk_172 (by decide +kernel) (by decide +kernel) (by decide +kernel)
theorem zr_182_59 : zSnd 182 59 (o_ifne 65 62) := zS_ifne (by decide +kernel : decode (zmB 182) 59 = .ok (.ifCond .ne 6, 3)) rfl (by decide)
theorem zr_182_62 : zSnd 182 62 (o_goto 237) := zS_goto (by decide +kernel : decode (zmB 182) 62 = .ok (.goto 175, 3)) (by decide)
theorem zr_182_65 : zSnd 182 65 (o_aload 2 66) := zS_aload_n (i := 2) (by decide +kernel) rfl rfl
theorem zr_182_66 : zSnd 182 66 (o_const 4 67) := zS_iconst (by decide +kernel) rfl (by decide)
theorem zr_182_67 : zSnd 182 67 (o_iload 5 69) := zS_iload (by decide +kernel) rfl
theorem zr_182_69 : zSnd 182 69 (o_imul 70) := zS_imul (by decide +kernel) rfl
theorem zr_182_70 : zSnd 182 70 (o_const 3 71) := zS_iconst (by decide +kernel) rfl (by decide)
theorem zr_182_71 : zSnd 182 71 (o_iadd 72) := zS_iadd (by decide +kernel) rfl
theorem zr_182_72 : zSnd 182 72 (o_iald 73) := zS_iald (by decide +kernel) rfl
theorem zr_182_73 : zSnd 182 73 (o_istore 6 75) := zS_istore (by decide +kernel) rfl (by decide +kernel)
theorem zr_182_75 : zSnd 182 75 (o_iload 5 77) := zS_iload (by decide +kernel) rfl
theorem zr_182_77 : zSnd 182 77 (o_iload 6 79) := zS_iload (by decide +kernel) rfl
theorem zr_182_79 : zSnd 182 79 (o_aload 0 80) := zS_aload_n (i := 0) (by decide +kernel) rfl rfl
theorem zr_182_80 : zSnd 182 80 (o_aload 2 81) := zS_aload_n (i := 2) (by decide +kernel) rfl rfl
theorem zr_182_81 : zSnd 182 81 (o_aload 3 82) := zS_aload_n (i := 3) (by decide +kernel) rfl rfl
theorem zr_182_82 : zSnd 182 82 (o_call 174 5 7 1 85) := zS_callS (idx := 10) (by decide +kernel) rfl zq_206 zq_207 (by decide +kernel) zMk_174 (by decide +kernel) (by decide +kernel) (by decide +kernel)
theorem zr_182_85 : zSnd 182 85 (o_ifne 109 88) := zS_ifne (by decide +kernel : decode (zmB 182) 85 = .ok (.ifCond .ne 24, 3)) rfl (by decide)
theorem zr_182_88 : zSnd 182 88 (o_iload 5 90) := zS_iload (by decide +kernel) rfl
theorem zr_182_90 : zSnd 182 90 (o_const 4 91) := zS_iconst (by decide +kernel) rfl (by decide)
theorem zr_182_91 : zSnd 182 91 (o_irem 92) := zS_irem (by decide +kernel) rfl
theorem zr_182_92 : zSnd 182 92 (o_ifle 113 95) := zS_ifle (by decide +kernel : decode (zmB 182) 92 = .ok (.ifCond .le 21, 3)) rfl (by decide)
theorem zr_182_95 : zSnd 182 95 (o_iload 5 97) := zS_iload (by decide +kernel) rfl
theorem zr_182_97 : zSnd 182 97 (o_const 1 98) := zS_iconst (by decide +kernel) rfl (by decide)
theorem zr_182_98 : zSnd 182 98 (o_isub 99) := zS_isub (by decide +kernel) rfl
theorem zr_182_99 : zSnd 182 99 (o_const 3 100) := zS_iconst (by decide +kernel) rfl (by decide)
theorem zr_182_100 : zSnd 182 100 (o_aload 2 101) := zS_aload_n (i := 2) (by decide +kernel) rfl rfl
theorem zr_182_101 : zSnd 182 101 (o_call 173 3 3 1 104) := zS_callS (idx := 16) (by decide +kernel) rfl zq_208 zq_209 (by decide +kernel) zMk_173 (by decide +kernel) (by decide +kernel) (by decide +kernel)
theorem zr_182_104 : zSnd 182 104 (o_iload 6 106) := zS_iload (by decide +kernel) rfl
theorem zr_182_106 : zSnd 182 106 (o_cle 113 109) := zS_cle (by decide +kernel : decode (zmB 182) 106 = .ok (.if_icmp .le 7, 3)) rfl (by decide)
theorem zr_182_109 : zSnd 182 109 (o_const 1 110) := zS_iconst (by decide +kernel) rfl (by decide)
theorem zr_182_110 : zSnd 182 110 (o_goto 114) := zS_goto (by decide +kernel : decode (zmB 182) 110 = .ok (.goto 4, 3)) (by decide)
theorem zr_182_113 : zSnd 182 113 (o_const 0 114) := zS_iconst (by decide +kernel) rfl (by decide)
theorem zr_182_114 : zSnd 182 114 (o_istore 7 116) := zS_istore (by decide +kernel) rfl (by decide +kernel)
theorem zr_182_116 : zSnd 182 116 (o_const 0 117) := zS_iconst (by decide +kernel) rfl (by decide)
theorem zr_182_117 : zSnd 182 117 (o_istore 8 119) := zS_istore (by decide +kernel) rfl (by decide +kernel)
theorem zr_182_119 : zSnd 182 119 (o_iload 8 121) := zS_iload (by decide +kernel) rfl
theorem zr_182_121 : zSnd 182 121 (o_const 12 123) := zS_bipush (by decide +kernel) rfl (by decide) (by decide)
theorem zr_182_123 : zSnd 182 123 (o_cge 199 126) := zS_cge (by decide +kernel : decode (zmB 182) 123 = .ok (.if_icmp .ge 76, 3)) rfl (by decide)
theorem zr_182_126 : zSnd 182 126 (o_iload 7 128) := zS_iload (by decide +kernel) rfl
theorem zr_182_128 : zSnd 182 128 (o_ifne 186 131) := zS_ifne (by decide +kernel : decode (zmB 182) 128 = .ok (.ifCond .ne 58, 3)) rfl (by decide)
theorem zr_182_131 : zSnd 182 131 (o_iload 8 133) := zS_iload (by decide +kernel) rfl
theorem zr_182_133 : zSnd 182 133 (o_aload 1 134) := zS_aload_n (i := 1) (by decide +kernel) rfl rfl
theorem zr_182_134 : zSnd 182 134 (o_call 172 2 2 1 137) := zS_callS (idx := 20) (by decide +kernel) rfl zq_210 zq_211 (by decide +kernel) zMk_172 (by decide +kernel) (by decide +kernel) (by decide +kernel)
theorem zr_182_137 : zSnd 182 137 (o_ifeq 190 140) := zS_ifeq (by decide +kernel : decode (zmB 182) 137 = .ok (.ifCond .eq 53, 3)) rfl (by decide)
theorem zr_182_140 : zSnd 182 140 (o_aload 2 141) := zS_aload_n (i := 2) (by decide +kernel) rfl rfl
theorem zr_182_141 : zSnd 182 141 (o_const 4 142) := zS_iconst (by decide +kernel) rfl (by decide)
theorem zr_182_142 : zSnd 182 142 (o_iload 8 144) := zS_iload (by decide +kernel) rfl
theorem zr_182_144 : zSnd 182 144 (o_imul 145) := zS_imul (by decide +kernel) rfl
theorem zr_182_145 : zSnd 182 145 (o_iald 146) := zS_iald (by decide +kernel) rfl
theorem zr_182_146 : zSnd 182 146 (o_aload 2 147) := zS_aload_n (i := 2) (by decide +kernel) rfl rfl
theorem zr_182_147 : zSnd 182 147 (o_const 4 148) := zS_iconst (by decide +kernel) rfl (by decide)
theorem zr_182_148 : zSnd 182 148 (o_iload 5 150) := zS_iload (by decide +kernel) rfl
theorem zr_182_150 : zSnd 182 150 (o_imul 151) := zS_imul (by decide +kernel) rfl
theorem zr_182_151 : zSnd 182 151 (o_iald 152) := zS_iald (by decide +kernel) rfl
theorem zr_182_152 : zSnd 182 152 (o_cne 190 155) := zS_cne (by decide +kernel : decode (zmB 182) 152 = .ok (.if_icmp .ne 38, 3)) rfl (by decide)
theorem zr_182_155 : zSnd 182 155 (o_aload 2 156) := zS_aload_n (i := 2) (by decide +kernel) rfl rfl
theorem zr_182_156 : zSnd 182 156 (o_const 4 157) := zS_iconst (by decide +kernel) rfl (by decide)
theorem zr_182_157 : zSnd 182 157 (o_iload 8 159) := zS_iload (by decide +kernel) rfl
theorem zr_182_159 : zSnd 182 159 (o_imul 160) := zS_imul (by decide +kernel) rfl
theorem zr_182_160 : zSnd 182 160 (o_const 2 161) := zS_iconst (by decide +kernel) rfl (by decide)
theorem zr_182_161 : zSnd 182 161 (o_iadd 162) := zS_iadd (by decide +kernel) rfl
theorem zr_182_162 : zSnd 182 162 (o_iald 163) := zS_iald (by decide +kernel) rfl
theorem zr_182_163 : zSnd 182 163 (o_aload 2 164) := zS_aload_n (i := 2) (by decide +kernel) rfl rfl
theorem zr_182_164 : zSnd 182 164 (o_const 4 165) := zS_iconst (by decide +kernel) rfl (by decide)
theorem zr_182_165 : zSnd 182 165 (o_iload 5 167) := zS_iload (by decide +kernel) rfl
theorem zr_182_167 : zSnd 182 167 (o_imul 168) := zS_imul (by decide +kernel) rfl
theorem zr_182_168 : zSnd 182 168 (o_const 2 169) := zS_iconst (by decide +kernel) rfl (by decide)
theorem zr_182_169 : zSnd 182 169 (o_iadd 170) := zS_iadd (by decide +kernel) rfl
theorem zr_182_170 : zSnd 182 170 (o_iald 171) := zS_iald (by decide +kernel) rfl
theorem zr_182_171 : zSnd 182 171 (o_cge 190 174) := zS_cge (by decide +kernel : decode (zmB 182) 171 = .ok (.if_icmp .ge 19, 3)) rfl (by decide)
theorem zr_182_174 : zSnd 182 174 (o_iload 8 176) := zS_iload (by decide +kernel) rfl
theorem zr_182_176 : zSnd 182 176 (o_const 3 177) := zS_iconst (by decide +kernel) rfl (by decide)
theorem zr_182_177 : zSnd 182 177 (o_aload 2 178) := zS_aload_n (i := 2) (by decide +kernel) rfl rfl
theorem zr_182_178 : zSnd 182 178 (o_call 173 3 3 1 181) := zS_callS (idx := 16) (by decide +kernel) rfl zq_208 zq_209 (by decide +kernel) zMk_173 (by decide +kernel) (by decide +kernel) (by decide +kernel)
theorem zr_182_181 : zSnd 182 181 (o_iload 6 183) := zS_iload (by decide +kernel) rfl
theorem zr_182_183 : zSnd 182 183 (o_cle 190 186) := zS_cle (by decide +kernel : decode (zmB 182) 183 = .ok (.if_icmp .le 7, 3)) rfl (by decide)
theorem zr_182_186 : zSnd 182 186 (o_const 1 187) := zS_iconst (by decide +kernel) rfl (by decide)
theorem zr_182_187 : zSnd 182 187 (o_goto 191) := zS_goto (by decide +kernel : decode (zmB 182) 187 = .ok (.goto 4, 3)) (by decide)
theorem zr_182_190 : zSnd 182 190 (o_const 0 191) := zS_iconst (by decide +kernel) rfl (by decide)
theorem zr_182_191 : zSnd 182 191 (o_istore 7 193) := zS_istore (by decide +kernel) rfl (by decide +kernel)
theorem zr_182_193 : zSnd 182 193 (o_iinc 8 1 196) := zS_iinc (by decide +kernel) rfl (by decide +kernel)
theorem zr_182_196 : zSnd 182 196 (o_goto 119) := zS_goto (by decide +kernel : decode (zmB 182) 196 = .ok (.goto (-77), 3)) (by decide)
theorem zr_182_199 : zSnd 182 199 (o_aload 2 200) := zS_aload_n (i := 2) (by decide +kernel) rfl rfl
theorem zr_182_200 : zSnd 182 200 (o_const 4 201) := zS_iconst (by decide +kernel) rfl (by decide)
theorem zr_182_201 : zSnd 182 201 (o_iload 5 203) := zS_iload (by decide +kernel) rfl
theorem zr_182_203 : zSnd 182 203 (o_imul 204) := zS_imul (by decide +kernel) rfl
theorem zr_182_204 : zSnd 182 204 (o_const 3 205) := zS_iconst (by decide +kernel) rfl (by decide)
theorem zr_182_205 : zSnd 182 205 (o_iadd 206) := zS_iadd (by decide +kernel) rfl
theorem zr_182_206 : zSnd 182 206 (o_dup2 207) := zS_dup2 (by decide +kernel) rfl
theorem zr_182_207 : zSnd 182 207 (o_iald 208) := zS_iald (by decide +kernel) rfl
theorem zr_182_208 : zSnd 182 208 (o_iload 7 210) := zS_iload (by decide +kernel) rfl
theorem zr_182_210 : zSnd 182 210 (o_ifeq 217 213) := zS_ifeq (by decide +kernel : decode (zmB 182) 210 = .ok (.ifCond .eq 7, 3)) rfl (by decide)
theorem zr_182_213 : zSnd 182 213 (o_const 1 214) := zS_iconst (by decide +kernel) rfl (by decide)
theorem zr_182_214 : zSnd 182 214 (o_goto 218) := zS_goto (by decide +kernel : decode (zmB 182) 214 = .ok (.goto 4, 3)) (by decide)
theorem zr_182_217 : zSnd 182 217 (o_const 0 218) := zS_iconst (by decide +kernel) rfl (by decide)
theorem zr_182_218 : zSnd 182 218 (o_iadd 219) := zS_iadd (by decide +kernel) rfl
theorem zr_182_219 : zSnd 182 219 (o_iast 220) := zS_iast (by decide +kernel) rfl
theorem zr_182_220 : zSnd 182 220 (o_iload 4 222) := zS_iload (by decide +kernel) rfl
theorem zr_182_222 : zSnd 182 222 (o_ifne 230 225) := zS_ifne (by decide +kernel : decode (zmB 182) 222 = .ok (.ifCond .ne 8, 3)) rfl (by decide)
theorem zr_182_225 : zSnd 182 225 (o_iload 7 227) := zS_iload (by decide +kernel) rfl
theorem zr_182_227 : zSnd 182 227 (o_ifeq 234 230) := zS_ifeq (by decide +kernel : decode (zmB 182) 227 = .ok (.ifCond .eq 7, 3)) rfl (by decide)
theorem zr_182_230 : zSnd 182 230 (o_const 1 231) := zS_iconst (by decide +kernel) rfl (by decide)
theorem zr_182_231 : zSnd 182 231 (o_goto 235) := zS_goto (by decide +kernel : decode (zmB 182) 231 = .ok (.goto 4, 3)) (by decide)
theorem zr_182_234 : zSnd 182 234 (o_const 0 235) := zS_iconst (by decide +kernel) rfl (by decide)
theorem zr_182_235 : zSnd 182 235 (o_istore 4 237) := zS_istore (by decide +kernel) rfl (by decide +kernel)
theorem zr_182_237 : zSnd 182 237 (o_iinc 5 1 240) := zS_iinc (by decide +kernel) rfl (by decide +kernel)
theorem zr_182_240 : zSnd 182 240 (o_goto 46) := zS_goto (by decide +kernel : decode (zmB 182) 240 = .ok (.goto (-194), 3)) (by decide)
theorem zr_182_243 : zSnd 182 243 (o_goto 35) := zS_goto (by decide +kernel : decode (zmB 182) 243 = .ok (.goto (-208), 3)) (by decide)
theorem zr_182_246 : zSnd 182 246 (o_ret) := zS_ret (by decide +kernel) (by decide +kernel)
theorem zT_182 (pc : Nat) : zSnd 182 pc (zc_182 pc) := by
  unfold zc_182
  exact (zSn_nd (zSn_nd (zSn_nd (zSn_nd (zSn_nd (zSn_nd (zSn_nd (zSn_lf zr_182_0) (zSn_lf zr_182_1)) (zSn_nd (zSn_lf zr_182_3) (zSn_lf zr_182_5))) (zSn_nd (zSn_nd (zSn_lf zr_182_7) (zSn_lf zr_182_10)) (zSn_nd (zSn_lf zr_182_11) (zSn_nd (zSn_lf zr_182_12) (zSn_lf zr_182_14))))) (zSn_nd (zSn_nd (zSn_nd (zSn_lf zr_182_15) (zSn_lf zr_182_16)) (zSn_nd (zSn_lf zr_182_17) (zSn_lf zr_182_18))) (zSn_nd (zSn_nd (zSn_lf zr_182_19) (zSn_lf zr_182_21)) (zSn_nd (zSn_lf zr_182_22) (zSn_nd (zSn_lf zr_182_23) (zSn_lf zr_182_24)))))) (zSn_nd (zSn_nd (zSn_nd (zSn_nd (zSn_lf zr_182_25) (zSn_lf zr_182_26)) (zSn_nd (zSn_lf zr_182_29) (zSn_lf zr_182_32))) (zSn_nd (zSn_nd (zSn_lf zr_182_33) (zSn_lf zr_182_35)) (zSn_nd (zSn_lf zr_182_37) (zSn_nd (zSn_lf zr_182_40) (zSn_lf zr_182_41))))) (zSn_nd (zSn_nd (zSn_nd (zSn_lf zr_182_43) (zSn_lf zr_182_44)) (zSn_nd (zSn_lf zr_182_46) (zSn_lf zr_182_48))) (zSn_nd (zSn_nd (zSn_lf zr_182_50) (zSn_lf zr_182_53)) (zSn_nd (zSn_lf zr_182_55) (zSn_nd (zSn_lf zr_182_56) (zSn_lf zr_182_59))))))) (zSn_nd (zSn_nd (zSn_nd (zSn_nd (zSn_nd (zSn_lf zr_182_62) (zSn_lf zr_182_65)) (zSn_nd (zSn_lf zr_182_66) (zSn_lf zr_182_67))) (zSn_nd (zSn_nd (zSn_lf zr_182_69) (zSn_lf zr_182_70)) (zSn_nd (zSn_lf zr_182_71) (zSn_nd (zSn_lf zr_182_72) (zSn_lf zr_182_73))))) (zSn_nd (zSn_nd (zSn_nd (zSn_lf zr_182_75) (zSn_lf zr_182_77)) (zSn_nd (zSn_lf zr_182_79) (zSn_lf zr_182_80))) (zSn_nd (zSn_nd (zSn_lf zr_182_81) (zSn_lf zr_182_82)) (zSn_nd (zSn_lf zr_182_85) (zSn_nd (zSn_lf zr_182_88) (zSn_lf zr_182_90)))))) (zSn_nd (zSn_nd (zSn_nd (zSn_nd (zSn_lf zr_182_91) (zSn_lf zr_182_92)) (zSn_nd (zSn_lf zr_182_95) (zSn_lf zr_182_97))) (zSn_nd (zSn_nd (zSn_lf zr_182_98) (zSn_lf zr_182_99)) (zSn_nd (zSn_lf zr_182_100) (zSn_nd (zSn_lf zr_182_101) (zSn_lf zr_182_104))))) (zSn_nd (zSn_nd (zSn_nd (zSn_lf zr_182_106) (zSn_lf zr_182_109)) (zSn_nd (zSn_lf zr_182_110) (zSn_lf zr_182_113))) (zSn_nd (zSn_nd (zSn_lf zr_182_114) (zSn_lf zr_182_116)) (zSn_nd (zSn_lf zr_182_117) (zSn_nd (zSn_lf zr_182_119) (zSn_lf zr_182_121)))))))) (zSn_nd (zSn_nd (zSn_nd (zSn_nd (zSn_nd (zSn_nd (zSn_lf zr_182_123) (zSn_lf zr_182_126)) (zSn_nd (zSn_lf zr_182_128) (zSn_lf zr_182_131))) (zSn_nd (zSn_nd (zSn_lf zr_182_133) (zSn_lf zr_182_134)) (zSn_nd (zSn_lf zr_182_137) (zSn_nd (zSn_lf zr_182_140) (zSn_lf zr_182_141))))) (zSn_nd (zSn_nd (zSn_nd (zSn_lf zr_182_142) (zSn_lf zr_182_144)) (zSn_nd (zSn_lf zr_182_145) (zSn_lf zr_182_146))) (zSn_nd (zSn_nd (zSn_lf zr_182_147) (zSn_lf zr_182_148)) (zSn_nd (zSn_lf zr_182_150) (zSn_nd (zSn_lf zr_182_151) (zSn_lf zr_182_152)))))) (zSn_nd (zSn_nd (zSn_nd (zSn_nd (zSn_lf zr_182_155) (zSn_lf zr_182_156)) (zSn_nd (zSn_lf zr_182_157) (zSn_lf zr_182_159))) (zSn_nd (zSn_nd (zSn_lf zr_182_160) (zSn_lf zr_182_161)) (zSn_nd (zSn_lf zr_182_162) (zSn_nd (zSn_lf zr_182_163) (zSn_lf zr_182_164))))) (zSn_nd (zSn_nd (zSn_nd (zSn_lf zr_182_165) (zSn_lf zr_182_167)) (zSn_nd (zSn_lf zr_182_168) (zSn_lf zr_182_169))) (zSn_nd (zSn_nd (zSn_lf zr_182_170) (zSn_lf zr_182_171)) (zSn_nd (zSn_lf zr_182_174) (zSn_nd (zSn_lf zr_182_176) (zSn_lf zr_182_177))))))) (zSn_nd (zSn_nd (zSn_nd (zSn_nd (zSn_nd (zSn_lf zr_182_178) (zSn_lf zr_182_181)) (zSn_nd (zSn_lf zr_182_183) (zSn_lf zr_182_186))) (zSn_nd (zSn_nd (zSn_lf zr_182_187) (zSn_lf zr_182_190)) (zSn_nd (zSn_lf zr_182_191) (zSn_nd (zSn_lf zr_182_193) (zSn_lf zr_182_196))))) (zSn_nd (zSn_nd (zSn_nd (zSn_lf zr_182_199) (zSn_lf zr_182_200)) (zSn_nd (zSn_lf zr_182_201) (zSn_lf zr_182_203))) (zSn_nd (zSn_nd (zSn_lf zr_182_204) (zSn_lf zr_182_205)) (zSn_nd (zSn_lf zr_182_206) (zSn_nd (zSn_lf zr_182_207) (zSn_lf zr_182_208)))))) (zSn_nd (zSn_nd (zSn_nd (zSn_nd (zSn_lf zr_182_210) (zSn_lf zr_182_213)) (zSn_nd (zSn_lf zr_182_214) (zSn_lf zr_182_217))) (zSn_nd (zSn_nd (zSn_lf zr_182_218) (zSn_lf zr_182_219)) (zSn_nd (zSn_lf zr_182_220) (zSn_nd (zSn_lf zr_182_222) (zSn_lf zr_182_225))))) (zSn_nd (zSn_nd (zSn_nd (zSn_lf zr_182_227) (zSn_lf zr_182_230)) (zSn_nd (zSn_lf zr_182_231) (zSn_lf zr_182_234))) (zSn_nd (zSn_nd (zSn_lf zr_182_235) (zSn_lf zr_182_237)) (zSn_nd (zSn_lf zr_182_240) (zSn_nd (zSn_lf zr_182_243) (zSn_lf zr_182_246)))))))))
theorem zr_183_0 : zSnd 183 0 (o_const 0 1) := zS_iconst (by decide +kernel) rfl (by decide)
theorem zr_183_1 : zSnd 183 1 (o_istore 6 3) := zS_istore (by decide +kernel) rfl (by decide +kernel)
theorem zr_183_3 : zSnd 183 3 (o_iload 6 5) := zS_iload (by decide +kernel) rfl
theorem zr_183_5 : zSnd 183 5 (o_const 3 6) := zS_iconst (by decide +kernel) rfl (by decide)
theorem zr_183_6 : zSnd 183 6 (o_cge 122 9) := zS_cge (by decide +kernel : decode (zmB 183) 6 = .ok (.if_icmp .ge 116, 3)) rfl (by decide)
theorem zr_183_9 : zSnd 183 9 (o_const 1 10) := zS_iconst (by decide +kernel) rfl (by decide)
theorem zr_183_10 : zSnd 183 10 (o_istore 7 12) := zS_istore (by decide +kernel) rfl (by decide +kernel)
theorem zr_183_12 : zSnd 183 12 (o_const 4 13) := zS_iconst (by decide +kernel) rfl (by decide)
theorem zr_183_13 : zSnd 183 13 (o_iload 6 15) := zS_iload (by decide +kernel) rfl
theorem zr_183_15 : zSnd 183 15 (o_imul 16) := zS_imul (by decide +kernel) rfl
theorem zr_183_16 : zSnd 183 16 (o_istore 8 18) := zS_istore (by decide +kernel) rfl (by decide +kernel)
theorem zr_183_18 : zSnd 183 18 (o_iload 8 20) := zS_iload (by decide +kernel) rfl
theorem zr_183_20 : zSnd 183 20 (o_const 4 21) := zS_iconst (by decide +kernel) rfl (by decide)
theorem zr_183_21 : zSnd 183 21 (o_iload 6 23) := zS_iload (by decide +kernel) rfl
theorem zr_183_23 : zSnd 183 23 (o_imul 24) := zS_imul (by decide +kernel) rfl
theorem zr_183_24 : zSnd 183 24 (o_aload 3 25) := zS_aload_n (i := 3) (by decide +kernel) rfl rfl
theorem zr_183_25 : zSnd 183 25 (o_const 3 26) := zS_iconst (by decide +kernel) rfl (by decide)
theorem zr_183_26 : zSnd 183 26 (o_iload 6 28) := zS_iload (by decide +kernel) rfl
theorem zr_183_28 : zSnd 183 28 (o_imul 29) := zS_imul (by decide +kernel) rfl
theorem zr_183_29 : zSnd 183 29 (o_const 2 30) := zS_iconst (by decide +kernel) rfl (by decide)
theorem zr_183_30 : zSnd 183 30 (o_iadd 31) := zS_iadd (by decide +kernel) rfl
theorem zr_183_31 : zSnd 183 31 (o_iald 32) := zS_iald (by decide +kernel) rfl
theorem zr_183_32 : zSnd 183 32 (o_iadd 33) := zS_iadd (by decide +kernel) rfl
theorem zr_183_33 : zSnd 183 33 (o_cge 116 36) := zS_cge (by decide +kernel : decode (zmB 183) 33 = .ok (.if_icmp .ge 83, 3)) rfl (by decide)
theorem zr_183_36 : zSnd 183 36 (o_iload 7 38) := zS_iload (by decide +kernel) rfl
theorem zr_183_38 : zSnd 183 38 (o_ifeq 80 41) := zS_ifeq (by decide +kernel : decode (zmB 183) 38 = .ok (.ifCond .eq 42, 3)) rfl (by decide)
theorem zr_183_41 : zSnd 183 41 (o_aload 4 43) := zS_aload (by decide +kernel) rfl
theorem zr_183_43 : zSnd 183 43 (o_const 4 44) := zS_iconst (by decide +kernel) rfl (by decide)
theorem zr_183_44 : zSnd 183 44 (o_iload 8 46) := zS_iload (by decide +kernel) rfl
theorem zr_183_46 : zSnd 183 46 (o_imul 47) := zS_imul (by decide +kernel) rfl
theorem zr_183_47 : zSnd 183 47 (o_const 3 48) := zS_iconst (by decide +kernel) rfl (by decide)
theorem zr_183_48 : zSnd 183 48 (o_iadd 49) := zS_iadd (by decide +kernel) rfl
theorem zr_183_49 : zSnd 183 49 (o_iald 50) := zS_iald (by decide +kernel) rfl
theorem zr_183_50 : zSnd 183 50 (o_iload 0 51) := zS_iload_n (i := 0) (by decide +kernel) rfl rfl
theorem zr_183_51 : zSnd 183 51 (o_cge 80 54) := zS_cge (by decide +kernel : decode (zmB 183) 51 = .ok (.if_icmp .ge 29, 3)) rfl (by decide)
theorem zr_183_54 : zSnd 183 54 (o_iload 8 56) := zS_iload (by decide +kernel) rfl
theorem zr_183_56 : zSnd 183 56 (o_aload 4 58) := zS_aload (by decide +kernel) rfl
theorem zr_183_58 : zSnd 183 58 (o_const 4 59) := zS_iconst (by decide +kernel) rfl (by decide)
theorem zr_183_59 : zSnd 183 59 (o_iload 8 61) := zS_iload (by decide +kernel) rfl
theorem zr_183_61 : zSnd 183 61 (o_imul 62) := zS_imul (by decide +kernel) rfl
theorem zr_183_62 : zSnd 183 62 (o_const 3 63) := zS_iconst (by decide +kernel) rfl (by decide)
theorem zr_183_63 : zSnd 183 63 (o_iadd 64) := zS_iadd (by decide +kernel) rfl
theorem zr_183_64 : zSnd 183 64 (o_iald 65) := zS_iald (by decide +kernel) rfl
theorem zr_183_65 : zSnd 183 65 (o_aload 2 66) := zS_aload_n (i := 2) (by decide +kernel) rfl rfl
theorem zr_183_66 : zSnd 183 66 (o_aload 4 68) := zS_aload (by decide +kernel) rfl
theorem zr_183_68 : zSnd 183 68 (o_aload 5 70) := zS_aload (by decide +kernel) rfl
theorem zr_183_70 : zSnd 183 70 (o_call 174 5 7 1 73) := zS_callS (idx := 10) (by decide +kernel) rfl zq_206 zq_207 (by decide +kernel) zMk_174 (by decide +kernel) (by decide +kernel) (by decide +kernel)
theorem zr_183_73 : zSnd 183 73 (o_ifne 80 76) := zS_ifne (by decide +kernel : decode (zmB 183) 73 = .ok (.ifCond .ne 7, 3)) rfl (by decide)
theorem zr_183_76 : zSnd 183 76 (o_const 1 77) := zS_iconst (by decide +kernel) rfl (by decide)
theorem zr_183_77 : zSnd 183 77 (o_goto 81) := zS_goto (by decide +kernel : decode (zmB 183) 77 = .ok (.goto 4, 3)) (by decide)
theorem zr_183_80 : zSnd 183 80 (o_const 0 81) := zS_iconst (by decide +kernel) rfl (by decide)
theorem zr_183_81 : zSnd 183 81 (o_istore 7 83) := zS_istore (by decide +kernel) rfl (by decide +kernel)
theorem zr_183_83 : zSnd 183 83 (o_aload 4 85) := zS_aload (by decide +kernel) rfl
theorem zr_183_85 : zSnd 183 85 (o_const 4 86) := zS_iconst (by decide +kernel) rfl (by decide)
theorem zr_183_86 : zSnd 183 86 (o_iload 8 88) := zS_iload (by decide +kernel) rfl
theorem zr_183_88 : zSnd 183 88 (o_imul 89) := zS_imul (by decide +kernel) rfl
theorem zr_183_89 : zSnd 183 89 (o_const 3 90) := zS_iconst (by decide +kernel) rfl (by decide)
theorem zr_183_90 : zSnd 183 90 (o_iadd 91) := zS_iadd (by decide +kernel) rfl
theorem zr_183_91 : zSnd 183 91 (o_iload 7 93) := zS_iload (by decide +kernel) rfl
theorem zr_183_93 : zSnd 183 93 (o_ifeq 108 96) := zS_ifeq (by decide +kernel : decode (zmB 183) 93 = .ok (.ifCond .eq 15, 3)) rfl (by decide)
theorem zr_183_96 : zSnd 183 96 (o_aload 4 98) := zS_aload (by decide +kernel) rfl
theorem zr_183_98 : zSnd 183 98 (o_const 4 99) := zS_iconst (by decide +kernel) rfl (by decide)
theorem zr_183_99 : zSnd 183 99 (o_iload 8 101) := zS_iload (by decide +kernel) rfl
theorem zr_183_101 : zSnd 183 101 (o_imul 102) := zS_imul (by decide +kernel) rfl
theorem zr_183_102 : zSnd 183 102 (o_const 3 103) := zS_iconst (by decide +kernel) rfl (by decide)
theorem zr_183_103 : zSnd 183 103 (o_iadd 104) := zS_iadd (by decide +kernel) rfl
theorem zr_183_104 : zSnd 183 104 (o_iald 105) := zS_iald (by decide +kernel) rfl
theorem zr_183_105 : zSnd 183 105 (o_goto 109) := zS_goto (by decide +kernel : decode (zmB 183) 105 = .ok (.goto 4, 3)) (by decide)
theorem zr_183_108 : zSnd 183 108 (o_const (-1) 109) := zS_iconst (by decide +kernel) rfl (by decide)
theorem zr_183_109 : zSnd 183 109 (o_iast 110) := zS_iast (by decide +kernel) rfl
theorem zr_183_110 : zSnd 183 110 (o_iinc 8 1 113) := zS_iinc (by decide +kernel) rfl (by decide +kernel)
theorem zr_183_113 : zSnd 183 113 (o_goto 18) := zS_goto (by decide +kernel : decode (zmB 183) 113 = .ok (.goto (-95), 3)) (by decide)
theorem zr_183_116 : zSnd 183 116 (o_iinc 6 1 119) := zS_iinc (by decide +kernel) rfl (by decide +kernel)
theorem zr_183_119 : zSnd 183 119 (o_goto 3) := zS_goto (by decide +kernel : decode (zmB 183) 119 = .ok (.goto (-116), 3)) (by decide)
theorem zr_183_122 : zSnd 183 122 (o_iload 1 123) := zS_iload_n (i := 1) (by decide +kernel) rfl rfl
theorem zr_183_123 : zSnd 183 123 (o_iload 0 124) := zS_iload_n (i := 0) (by decide +kernel) rfl rfl
theorem zr_183_124 : zSnd 183 124 (o_aload 2 125) := zS_aload_n (i := 2) (by decide +kernel) rfl rfl
theorem zr_183_125 : zSnd 183 125 (o_aload 3 126) := zS_aload_n (i := 3) (by decide +kernel) rfl rfl
theorem zr_183_126 : zSnd 183 126 (o_aload 4 128) := zS_aload (by decide +kernel) rfl
theorem zr_183_128 : zSnd 183 128 (o_aload 5 130) := zS_aload (by decide +kernel) rfl
theorem zr_183_130 : zSnd 183 130 (o_call 179 6 13 0 133) := zS_callS (idx := 40) (by decide +kernel) rfl zq_220 zq_221 (by decide +kernel) zMk_179 (by decide +kernel) (by decide +kernel) (by decide +kernel)
theorem zr_183_133 : zSnd 183 133 (o_ret) := zS_ret (by decide +kernel) (by decide +kernel)
theorem zT_183 (pc : Nat) : zSnd 183 pc (zc_183 pc) := by
  unfold zc_183
  exact (zSn_nd (zSn_nd (zSn_nd (zSn_nd (zSn_nd (zSn_nd (zSn_lf zr_183_0) (zSn_lf zr_183_1)) (zSn_nd (zSn_lf zr_183_3) (zSn_nd (zSn_lf zr_183_5) (zSn_lf zr_183_6)))) (zSn_nd (zSn_nd (zSn_lf zr_183_9) (zSn_lf zr_183_10)) (zSn_nd (zSn_lf zr_183_12) (zSn_nd (zSn_lf zr_183_13) (zSn_lf zr_183_15))))) (zSn_nd (zSn_nd (zSn_nd (zSn_lf zr_183_16) (zSn_lf zr_183_18)) (zSn_nd (zSn_lf zr_183_20) (zSn_nd (zSn_lf zr_183_21) (zSn_lf zr_183_23)))) (zSn_nd (zSn_nd (zSn_lf zr_183_24) (zSn_lf zr_183_25)) (zSn_nd (zSn_lf zr_183_26) (zSn_nd (zSn_lf zr_183_28) (zSn_lf zr_183_29)))))) (zSn_nd (zSn_nd (zSn_nd (zSn_nd (zSn_lf zr_183_30) (zSn_lf zr_183_31)) (zSn_nd (zSn_lf zr_183_32) (zSn_nd (zSn_lf zr_183_33) (zSn_lf zr_183_36)))) (zSn_nd (zSn_nd (zSn_lf zr_183_38) (zSn_lf zr_183_41)) (zSn_nd (zSn_lf zr_183_43) (zSn_nd (zSn_lf zr_183_44) (zSn_lf zr_183_46))))) (zSn_nd (zSn_nd (zSn_nd (zSn_lf zr_183_47) (zSn_lf zr_183_48)) (zSn_nd (zSn_lf zr_183_49) (zSn_nd (zSn_lf zr_183_50) (zSn_lf zr_183_51)))) (zSn_nd (zSn_nd (zSn_lf zr_183_54) (zSn_nd (zSn_lf zr_183_56) (zSn_lf zr_183_58))) (zSn_nd (zSn_lf zr_183_59) (zSn_nd (zSn_lf zr_183_61) (zSn_lf zr_183_62))))))) (zSn_nd (zSn_nd (zSn_nd (zSn_nd (zSn_nd (zSn_lf zr_183_63) (zSn_lf zr_183_64)) (zSn_nd (zSn_lf zr_183_65) (zSn_nd (zSn_lf zr_183_66) (zSn_lf zr_183_68)))) (zSn_nd (zSn_nd (zSn_lf zr_183_70) (zSn_lf zr_183_73)) (zSn_nd (zSn_lf zr_183_76) (zSn_nd (zSn_lf zr_183_77) (zSn_lf zr_183_80))))) (zSn_nd (zSn_nd (zSn_nd (zSn_lf zr_183_81) (zSn_lf zr_183_83)) (zSn_nd (zSn_lf zr_183_85) (zSn_nd (zSn_lf zr_183_86) (zSn_lf zr_183_88)))) (zSn_nd (zSn_nd (zSn_lf zr_183_89) (zSn_lf zr_183_90)) (zSn_nd (zSn_lf zr_183_91) (zSn_nd (zSn_lf zr_183_93) (zSn_lf zr_183_96)))))) (zSn_nd (zSn_nd (zSn_nd (zSn_nd (zSn_lf zr_183_98) (zSn_lf zr_183_99)) (zSn_nd (zSn_lf zr_183_101) (zSn_nd (zSn_lf zr_183_102) (zSn_lf zr_183_103)))) (zSn_nd (zSn_nd (zSn_lf zr_183_104) (zSn_lf zr_183_105)) (zSn_nd (zSn_lf zr_183_108) (zSn_nd (zSn_lf zr_183_109) (zSn_lf zr_183_110))))) (zSn_nd (zSn_nd (zSn_nd (zSn_lf zr_183_113) (zSn_lf zr_183_116)) (zSn_nd (zSn_lf zr_183_119) (zSn_nd (zSn_lf zr_183_122) (zSn_lf zr_183_123)))) (zSn_nd (zSn_nd (zSn_lf zr_183_124) (zSn_nd (zSn_lf zr_183_125) (zSn_lf zr_183_126))) (zSn_nd (zSn_lf zr_183_128) (zSn_nd (zSn_lf zr_183_130) (zSn_lf zr_183_133))))))))
theorem zr_184_0 : zSnd 184 0 (o_const 0 1) := zS_iconst (by decide +kernel) rfl (by decide)
theorem zr_184_1 : zSnd 184 1 (o_istore 2 2) := zS_istore_n (i := 2) (by decide +kernel) rfl rfl (by decide +kernel)
theorem zr_184_2 : zSnd 184 2 (o_iload 2 3) := zS_iload_n (i := 2) (by decide +kernel) rfl rfl
theorem zr_184_3 : zSnd 184 3 (o_const 48 5) := zS_bipush (by decide +kernel) rfl (by decide) (by decide)
theorem zr_184_5 : zSnd 184 5 (o_cge 20 8) := zS_cge (by decide +kernel : decode (zmB 184) 5 = .ok (.if_icmp .ge 15, 3)) rfl (by decide)
theorem zr_184_8 : zSnd 184 8 (o_aload 1 9) := zS_aload_n (i := 1) (by decide +kernel) rfl rfl
theorem zr_184_9 : zSnd 184 9 (o_iload 2 10) := zS_iload_n (i := 2) (by decide +kernel) rfl rfl
theorem zr_184_10 : zSnd 184 10 (o_aload 0 11) := zS_aload_n (i := 0) (by decide +kernel) rfl rfl
theorem zr_184_11 : zSnd 184 11 (o_iload 2 12) := zS_iload_n (i := 2) (by decide +kernel) rfl rfl
theorem zr_184_12 : zSnd 184 12 (o_iald 13) := zS_iald (by decide +kernel) rfl
theorem zr_184_13 : zSnd 184 13 (o_iast 14) := zS_iast (by decide +kernel) rfl
theorem zr_184_14 : zSnd 184 14 (o_iinc 2 1 17) := zS_iinc (by decide +kernel) rfl (by decide +kernel)
theorem zr_184_17 : zSnd 184 17 (o_goto 2) := zS_goto (by decide +kernel : decode (zmB 184) 17 = .ok (.goto (-15), 3)) (by decide)
theorem zr_184_20 : zSnd 184 20 (o_ret) := zS_ret (by decide +kernel) (by decide +kernel)
theorem zT_184 (pc : Nat) : zSnd 184 pc (zc_184 pc) := by
  unfold zc_184
  exact (zSn_nd (zSn_nd (zSn_nd (zSn_lf zr_184_0) (zSn_nd (zSn_lf zr_184_1) (zSn_lf zr_184_2))) (zSn_nd (zSn_nd (zSn_lf zr_184_3) (zSn_lf zr_184_5)) (zSn_nd (zSn_lf zr_184_8) (zSn_lf zr_184_9)))) (zSn_nd (zSn_nd (zSn_lf zr_184_10) (zSn_nd (zSn_lf zr_184_11) (zSn_lf zr_184_12))) (zSn_nd (zSn_nd (zSn_lf zr_184_13) (zSn_lf zr_184_14)) (zSn_nd (zSn_lf zr_184_17) (zSn_lf zr_184_20)))))
theorem zr_185_0 : zSnd 185 0 (o_const 0 1) := zS_iconst (by decide +kernel) rfl (by decide)
theorem zr_185_1 : zSnd 185 1 (o_istore 5 3) := zS_istore (by decide +kernel) rfl (by decide +kernel)
theorem zr_185_3 : zSnd 185 3 (o_const 0 4) := zS_iconst (by decide +kernel) rfl (by decide)
theorem zr_185_4 : zSnd 185 4 (o_istore 6 6) := zS_istore (by decide +kernel) rfl (by decide +kernel)
theorem zr_185_6 : zSnd 185 6 (o_const 0 7) := zS_iconst (by decide +kernel) rfl (by decide)
theorem zr_185_7 : zSnd 185 7 (o_istore 7 9) := zS_istore (by decide +kernel) rfl (by decide +kernel)
theorem zr_185_9 : zSnd 185 9 (o_const 0 10) := zS_iconst (by decide +kernel) rfl (by decide)
theorem zr_185_10 : zSnd 185 10 (o_istore 8 12) := zS_istore (by decide +kernel) rfl (by decide +kernel)
theorem zr_185_12 : zSnd 185 12 (o_const 0 13) := zS_iconst (by decide +kernel) rfl (by decide)
theorem zr_185_13 : zSnd 185 13 (o_istore 9 15) := zS_istore (by decide +kernel) rfl (by decide +kernel)
theorem zr_185_15 : zSnd 185 15 (o_aload 1 16) := zS_aload_n (i := 1) (by decide +kernel) rfl rfl
theorem zr_185_16 : zSnd 185 16 (o_const 1 17) := zS_iconst (by decide +kernel) rfl (by decide)
theorem zr_185_17 : zSnd 185 17 (o_iald 18) := zS_iald (by decide +kernel) rfl
theorem zr_185_18 : zSnd 185 18 (o_const 1 19) := zS_iconst (by decide +kernel) rfl (by decide)
theorem zr_185_19 : zSnd 185 19 (o_cne 26 22) := zS_cne (by decide +kernel : decode (zmB 185) 19 = .ok (.if_icmp .ne 7, 3)) rfl (by decide)
theorem zr_185_22 : zSnd 185 22 (o_const 1 23) := zS_iconst (by decide +kernel) rfl (by decide)
theorem zr_185_23 : zSnd 185 23 (o_goto 27) := zS_goto (by decide +kernel : decode (zmB 185) 23 = .ok (.goto 4, 3)) (by decide)
theorem zr_185_26 : zSnd 185 26 (o_const 0 27) := zS_iconst (by decide +kernel) rfl (by decide)
theorem zr_185_27 : zSnd 185 27 (o_istore 10 29) := zS_istore (by decide +kernel) rfl (by decide +kernel)
theorem zr_185_29 : zSnd 185 29 (o_const 0 30) := zS_iconst (by decide +kernel) rfl (by decide)
theorem zr_185_30 : zSnd 185 30 (o_istore 11 32) := zS_istore (by decide +kernel) rfl (by decide +kernel)
theorem zr_185_32 : zSnd 185 32 (o_iload 11 34) := zS_iload (by decide +kernel) rfl
theorem zr_185_34 : zSnd 185 34 (o_const 12 36) := zS_bipush (by decide +kernel) rfl (by decide) (by decide)
theorem zr_185_36 : zSnd 185 36 (o_cge 440 39) := zS_cge (by decide +kernel : decode (zmB 185) 36 = .ok (.if_icmp .ge 404, 3)) rfl (by decide)
theorem zr_185_39 : zSnd 185 39 (o_iload 11 41) := zS_iload (by decide +kernel) rfl
theorem zr_185_41 : zSnd 185 41 (o_aload 2 42) := zS_aload_n (i := 2) (by decide +kernel) rfl rfl
theorem zr_185_42 : zSnd 185 42 (o_call 172 2 2 1 45) := zS_callS (idx := 20) (by decide +kernel) rfl zq_210 zq_211 (by decide +kernel) zMk_172 (by decide +kernel) (by decide +kernel) (by decide +kernel)
theorem zr_185_45 : zSnd 185 45 (o_ifne 51 48) := zS_ifne (by decide +kernel : decode (zmB 185) 45 = .ok (.ifCond .ne 6, 3)) rfl (by decide)
theorem zr_185_48 : zSnd 185 48 (o_goto 434) := zS_goto (by decide +kernel : decode (zmB 185) 48 = .ok (.goto 386, 3)) (by decide)
theorem zr_185_51 : zSnd 185 51 (o_iload 10 53) := zS_iload (by decide +kernel) rfl
theorem zr_185_53 : zSnd 185 53 (o_ifeq 80 56) := zS_ifeq (by decide +kernel : decode (zmB 185) 53 = .ok (.ifCond .eq 27, 3)) rfl (by decide)
theorem zr_185_56 : zSnd 185 56 (o_iload 11 58) := zS_iload (by decide +kernel) rfl
theorem zr_185_58 : zSnd 185 58 (o_aload 3 59) := zS_aload_n (i := 3) (by decide +kernel) rfl rfl
theorem zr_185_59 : zSnd 185 59 (o_const 4 60) := zS_iconst (by decide +kernel) rfl (by decide)
theorem zr_185_60 : zSnd 185 60 (o_iload 11 62) := zS_iload (by decide +kernel) rfl
theorem zr_185_62 : zSnd 185 62 (o_imul 63) := zS_imul (by decide +kernel) rfl
theorem zr_185_63 : zSnd 185 63 (o_const 3 64) := zS_iconst (by decide +kernel) rfl (by decide)
theorem zr_185_64 : zSnd 185 64 (o_iadd 65) := zS_iadd (by decide +kernel) rfl
theorem zr_185_65 : zSnd 185 65 (o_iald 66) := zS_iald (by decide +kernel) rfl
theorem zr_185_66 : zSnd 185 66 (o_aload 1 67) := zS_aload_n (i := 1) (by decide +kernel) rfl rfl
theorem zr_185_67 : zSnd 185 67 (o_aload 3 68) := zS_aload_n (i := 3) (by decide +kernel) rfl rfl
theorem zr_185_68 : zSnd 185 68 (o_aload 4 70) := zS_aload (by decide +kernel) rfl
theorem zr_185_70 : zSnd 185 70 (o_call 174 5 7 1 73) := zS_callS (idx := 10) (by decide +kernel) rfl zq_206 zq_207 (by decide +kernel) zMk_174 (by decide +kernel) (by decide +kernel) (by decide +kernel)
theorem zr_185_73 : zSnd 185 73 (o_ifeq 80 76) := zS_ifeq (by decide +kernel : decode (zmB 185) 73 = .ok (.ifCond .eq 7, 3)) rfl (by decide)
theorem zr_185_76 : zSnd 185 76 (o_const 1 77) := zS_iconst (by decide +kernel) rfl (by decide)
theorem zr_185_77 : zSnd 185 77 (o_goto 81) := zS_goto (by decide +kernel : decode (zmB 185) 77 = .ok (.goto 4, 3)) (by decide)
theorem zr_185_80 : zSnd 185 80 (o_const 0 81) := zS_iconst (by decide +kernel) rfl (by decide)
theorem zr_185_81 : zSnd 185 81 (o_istore 12 83) := zS_istore (by decide +kernel) rfl (by decide +kernel)
theorem zr_185_83 : zSnd 185 83 (o_iload 11 85) := zS_iload (by decide +kernel) rfl
theorem zr_185_85 : zSnd 185 85 (o_const 4 86) := zS_iconst (by decide +kernel) rfl (by decide)
theorem zr_185_86 : zSnd 185 86 (o_idiv 87) := zS_idiv (by decide +kernel) rfl
theorem zr_185_87 : zSnd 185 87 (o_istore 13 89) := zS_istore (by decide +kernel) rfl (by decide +kernel)
theorem zr_185_89 : zSnd 185 89 (o_iload 11 91) := zS_iload (by decide +kernel) rfl
theorem zr_185_91 : zSnd 185 91 (o_const 4 92) := zS_iconst (by decide +kernel) rfl (by decide)
theorem zr_185_92 : zSnd 185 92 (o_irem 93) := zS_irem (by decide +kernel) rfl
theorem zr_185_93 : zSnd 185 93 (o_istore 14 95) := zS_istore (by decide +kernel) rfl (by decide +kernel)
theorem zr_185_95 : zSnd 185 95 (o_aload 0 96) := zS_aload_n (i := 0) (by decide +kernel) rfl rfl
theorem zr_185_96 : zSnd 185 96 (o_iload 13 98) := zS_iload (by decide +kernel) rfl
theorem zr_185_98 : zSnd 185 98 (o_iload 14 100) := zS_iload (by decide +kernel) rfl
theorem zr_185_100 : zSnd 185 100 (o_const 0 101) := zS_iconst (by decide +kernel) rfl (by decide)
theorem zr_185_101 : zSnd 185 101 (o_callv 5 12 4 5 1 104) := zS_callV (n := 3) (idx := 44) (by decide +kernel) rfl rfl (by decide) rfl zq_222 zq_223 zq_224 (by decide +kernel) zMk_12 (by decide +kernel) (by decide +kernel) (by decide +kernel)
theorem zr_185_104 : zSnd 185 104 (o_aload 3 105) := zS_aload_n (i := 3) (by decide +kernel) rfl rfl
theorem zr_185_105 : zSnd 185 105 (o_const 4 106) := zS_iconst (by decide +kernel) rfl (by decide)
theorem zr_185_106 : zSnd 185 106 (o_iload 11 108) := zS_iload (by decide +kernel) rfl
theorem zr_185_108 : zSnd 185 108 (o_imul 109) := zS_imul (by decide +kernel) rfl
theorem zr_185_109 : zSnd 185 109 (o_iald 110) := zS_iald (by decide +kernel) rfl
theorem zr_185_110 : zSnd 185 110 (o_cne 222 113) := zS_cne (by decide +kernel : decode (zmB 185) 110 = .ok (.if_icmp .ne 112, 3)) rfl (by decide)
theorem zr_185_113 : zSnd 185 113 (o_aload 0 114) := zS_aload_n (i := 0) (by decide +kernel) rfl rfl
theorem zr_185_114 : zSnd 185 114 (o_iload 13 116) := zS_iload (by decide +kernel) rfl
theorem zr_185_116 : zSnd 185 116 (o_iload 14 118) := zS_iload (by decide +kernel) rfl
theorem zr_185_118 : zSnd 185 118 (o_const 1 119) := zS_iconst (by decide +kernel) rfl (by decide)
theorem zr_185_119 : zSnd 185 119 (o_callv 5 12 4 5 1 122) := zS_callV (n := 3) (idx := 44) (by decide +kernel) rfl rfl (by decide) rfl zq_222 zq_223 zq_224 (by decide +kernel) zMk_12 (by decide +kernel) (by decide +kernel) (by decide +kernel)
theorem zr_185_122 : zSnd 185 122 (o_aload 3 123) := zS_aload_n (i := 3) (by decide +kernel) rfl rfl
theorem zr_185_123 : zSnd 185 123 (o_const 4 124) := zS_iconst (by decide +kernel) rfl (by decide)
theorem zr_185_124 : zSnd 185 124 (o_iload 11 126) := zS_iload (by decide +kernel) rfl
theorem zr_185_126 : zSnd 185 126 (o_imul 127) := zS_imul (by decide +kernel) rfl
theorem zr_185_127 : zSnd 185 127 (o_const 1 128) := zS_iconst (by decide +kernel) rfl (by decide)
theorem zr_185_128 : zSnd 185 128 (o_iadd 129) := zS_iadd (by decide +kernel) rfl
theorem zr_185_129 : zSnd 185 129 (o_iald 130) := zS_iald (by decide +kernel) rfl
theorem zr_185_130 : zSnd 185 130 (o_cne 222 133) := zS_cne (by decide +kernel : decode (zmB 185) 130 = .ok (.if_icmp .ne 92, 3)) rfl (by decide)
theorem zr_185_133 : zSnd 185 133 (o_aload 0 134) := zS_aload_n (i := 0) (by decide +kernel) rfl rfl
theorem zr_185_134 : zSnd 185 134 (o_iload 13 136) := zS_iload (by decide +kernel) rfl
theorem zr_185_136 : zSnd 185 136 (o_iload 14 138) := zS_iload (by decide +kernel) rfl
theorem zr_185_138 : zSnd 185 138 (o_const 2 139) := zS_iconst (by decide +kernel) rfl (by decide)
theorem zr_185_139 : zSnd 185 139 (o_callv 5 12 4 5 1 142) := zS_callV (n := 3) (idx := 44) (by decide +kernel) rfl rfl (by decide) rfl zq_222 zq_223 zq_224 (by decide +kernel) zMk_12 (by decide +kernel) (by decide +kernel) (by decide +kernel)
theorem zr_185_142 : zSnd 185 142 (o_iload 10 144) := zS_iload (by decide +kernel) rfl
theorem zr_185_144 : zSnd 185 144 (o_ifeq 158 147) := zS_ifeq (by decide +kernel : decode (zmB 185) 144 = .ok (.ifCond .eq 14, 3)) rfl (by decide)
theorem zr_185_147 : zSnd 185 147 (o_aload 3 148) := zS_aload_n (i := 3) (by decide +kernel) rfl rfl
theorem zr_185_148 : zSnd 185 148 (o_const 4 149) := zS_iconst (by decide +kernel) rfl (by decide)
theorem zr_185_149 : zSnd 185 149 (o_iload 11 151) := zS_iload (by decide +kernel) rfl
theorem zr_185_151 : zSnd 185 151 (o_imul 152) := zS_imul (by decide +kernel) rfl
theorem zr_185_152 : zSnd 185 152 (o_const 2 153) := zS_iconst (by decide +kernel) rfl (by decide)
theorem zr_185_153 : zSnd 185 153 (o_iadd 154) := zS_iadd (by decide +kernel) rfl
theorem zr_185_154 : zSnd 185 154 (o_iald 155) := zS_iald (by decide +kernel) rfl
theorem zr_185_155 : zSnd 185 155 (o_goto 159) := zS_goto (by decide +kernel : decode (zmB 185) 155 = .ok (.goto 4, 3)) (by decide)
theorem zr_185_158 : zSnd 185 158 (o_const (-1) 159) := zS_iconst (by decide +kernel) rfl (by decide)
theorem zr_185_159 : zSnd 185 159 (o_cne 222 162) := zS_cne (by decide +kernel : decode (zmB 185) 159 = .ok (.if_icmp .ne 63, 3)) rfl (by decide)
theorem zr_185_162 : zSnd 185 162 (o_aload 0 163) := zS_aload_n (i := 0) (by decide +kernel) rfl rfl
theorem zr_185_163 : zSnd 185 163 (o_iload 13 165) := zS_iload (by decide +kernel) rfl
theorem zr_185_165 : zSnd 185 165 (o_iload 14 167) := zS_iload (by decide +kernel) rfl
theorem zr_185_167 : zSnd 185 167 (o_const 3 168) := zS_iconst (by decide +kernel) rfl (by decide)
theorem zr_185_168 : zSnd 185 168 (o_callv 5 12 4 5 1 171) := zS_callV (n := 3) (idx := 44) (by decide +kernel) rfl rfl (by decide) rfl zq_222 zq_223 zq_224 (by decide +kernel) zMk_12 (by decide +kernel) (by decide +kernel) (by decide +kernel)
theorem zr_185_171 : zSnd 185 171 (o_iload 10 173) := zS_iload (by decide +kernel) rfl
theorem zr_185_173 : zSnd 185 173 (o_ifeq 187 176) := zS_ifeq (by decide +kernel : decode (zmB 185) 173 = .ok (.ifCond .eq 14, 3)) rfl (by decide)
theorem zr_185_176 : zSnd 185 176 (o_aload 3 177) := zS_aload_n (i := 3) (by decide +kernel) rfl rfl
theorem zr_185_177 : zSnd 185 177 (o_const 4 178) := zS_iconst (by decide +kernel) rfl (by decide)
theorem zr_185_178 : zSnd 185 178 (o_iload 11 180) := zS_iload (by decide +kernel) rfl
theorem zr_185_180 : zSnd 185 180 (o_imul 181) := zS_imul (by decide +kernel) rfl
theorem zr_185_181 : zSnd 185 181 (o_const 3 182) := zS_iconst (by decide +kernel) rfl (by decide)
theorem zr_185_182 : zSnd 185 182 (o_iadd 183) := zS_iadd (by decide +kernel) rfl
theorem zr_185_183 : zSnd 185 183 (o_iald 184) := zS_iald (by decide +kernel) rfl
theorem zr_185_184 : zSnd 185 184 (o_goto 188) := zS_goto (by decide +kernel : decode (zmB 185) 184 = .ok (.goto 4, 3)) (by decide)
theorem zr_185_187 : zSnd 185 187 (o_const (-1) 188) := zS_iconst (by decide +kernel) rfl (by decide)
theorem zr_185_188 : zSnd 185 188 (o_cne 222 191) := zS_cne (by decide +kernel : decode (zmB 185) 188 = .ok (.if_icmp .ne 34, 3)) rfl (by decide)
theorem zr_185_191 : zSnd 185 191 (o_aload 0 192) := zS_aload_n (i := 0) (by decide +kernel) rfl rfl
theorem zr_185_192 : zSnd 185 192 (o_iload 13 194) := zS_iload (by decide +kernel) rfl
theorem zr_185_194 : zSnd 185 194 (o_iload 14 196) := zS_iload (by decide +kernel) rfl
theorem zr_185_196 : zSnd 185 196 (o_const 4 197) := zS_iconst (by decide +kernel) rfl (by decide)
theorem zr_185_197 : zSnd 185 197 (o_callv 5 12 4 5 1 200) := zS_callV (n := 3) (idx := 44) (by decide +kernel) rfl rfl (by decide) rfl zq_222 zq_223 zq_224 (by decide +kernel) zMk_12 (by decide +kernel) (by decide +kernel) (by decide +kernel)
theorem zr_185_200 : zSnd 185 200 (o_iload 10 202) := zS_iload (by decide +kernel) rfl
theorem zr_185_202 : zSnd 185 202 (o_ifeq 218 205) := zS_ifeq (by decide +kernel : decode (zmB 185) 202 = .ok (.ifCond .eq 16, 3)) rfl (by decide)
theorem zr_185_205 : zSnd 185 205 (o_iload 12 207) := zS_iload (by decide +kernel) rfl
theorem zr_185_207 : zSnd 185 207 (o_ifeq 214 210) := zS_ifeq (by decide +kernel : decode (zmB 185) 207 = .ok (.ifCond .eq 7, 3)) rfl (by decide)
theorem zr_185_210 : zSnd 185 210 (o_const 1 211) := zS_iconst (by decide +kernel) rfl (by decide)
theorem zr_185_211 : zSnd 185 211 (o_goto 219) := zS_goto (by decide +kernel : decode (zmB 185) 211 = .ok (.goto 8, 3)) (by decide)
theorem zr_185_214 : zSnd 185 214 (o_const 0 215) := zS_iconst (by decide +kernel) rfl (by decide)
theorem zr_185_215 : zSnd 185 215 (o_goto 219) := zS_goto (by decide +kernel : decode (zmB 185) 215 = .ok (.goto 4, 3)) (by decide)
theorem zr_185_218 : zSnd 185 218 (o_const (-1) 219) := zS_iconst (by decide +kernel) rfl (by decide)
theorem zr_185_219 : zSnd 185 219 (o_ceq 224 222) := zS_ceq (by decide +kernel : decode (zmB 185) 219 = .ok (.if_icmp .eq 5, 3)) rfl (by decide)
theorem zr_185_222 : zSnd 185 222 (o_const 0 223) := zS_iconst (by decide +kernel) rfl (by decide)
theorem zr_185_223 : zSnd 185 223 (o_zret) := zS_zret (by decide +kernel) (by decide +kernel)
theorem zr_185_224 : zSnd 185 224 (o_iinc 8 1 227) := zS_iinc (by decide +kernel) rfl (by decide +kernel)
theorem zr_185_227 : zSnd 185 227 (o_iload 5 229) := zS_iload (by decide +kernel) rfl
theorem zr_185_229 : zSnd 185 229 (o_iload 12 231) := zS_iload (by decide +kernel) rfl
theorem zr_185_231 : zSnd 185 231 (o_ifeq 238 234) := zS_ifeq (by decide +kernel : decode (zmB 185) 231 = .ok (.ifCond .eq 7, 3)) rfl (by decide)
theorem zr_185_234 : zSnd 185 234 (o_const 1 235) := zS_iconst (by decide +kernel) rfl (by decide)
theorem zr_185_235 : zSnd 185 235 (o_goto 239) := zS_goto (by decide +kernel : decode (zmB 185) 235 = .ok (.goto 4, 3)) (by decide)
theorem zr_185_238 : zSnd 185 238 (o_const 0 239) := zS_iconst (by decide +kernel) rfl (by decide)
theorem zr_185_239 : zSnd 185 239 (o_iadd 240) := zS_iadd (by decide +kernel) rfl
theorem zr_185_240 : zSnd 185 240 (o_istore 5 242) := zS_istore (by decide +kernel) rfl (by decide +kernel)
theorem zr_185_242 : zSnd 185 242 (o_iload 9 244) := zS_iload (by decide +kernel) rfl
theorem zr_185_244 : zSnd 185 244 (o_aload 3 245) := zS_aload_n (i := 3) (by decide +kernel) rfl rfl
theorem zr_185_245 : zSnd 185 245 (o_const 4 246) := zS_iconst (by decide +kernel) rfl (by decide)
theorem zr_185_246 : zSnd 185 246 (o_iload 11 248) := zS_iload (by decide +kernel) rfl
theorem zr_185_248 : zSnd 185 248 (o_imul 249) := zS_imul (by decide +kernel) rfl
theorem zr_185_249 : zSnd 185 249 (o_const 1 250) := zS_iconst (by decide +kernel) rfl (by decide)
theorem zr_185_250 : zSnd 185 250 (o_iadd 251) := zS_iadd (by decide +kernel) rfl
theorem zr_185_251 : zSnd 185 251 (o_iald 252) := zS_iald (by decide +kernel) rfl
theorem zr_185_252 : zSnd 185 252 (o_iadd 253) := zS_iadd (by decide +kernel) rfl
theorem zr_185_253 : zSnd 185 253 (o_istore 9 255) := zS_istore (by decide +kernel) rfl (by decide +kernel)
theorem zr_185_255 : zSnd 185 255 (o_iload 11 257) := zS_iload (by decide +kernel) rfl
theorem zr_185_257 : zSnd 185 257 (o_const 3 258) := zS_iconst (by decide +kernel) rfl (by decide)
theorem zr_185_258 : zSnd 185 258 (o_aload 3 259) := zS_aload_n (i := 3) (by decide +kernel) rfl rfl
theorem zr_185_259 : zSnd 185 259 (o_call 173 3 3 1 262) := zS_callS (idx := 16) (by decide +kernel) rfl zq_208 zq_209 (by decide +kernel) zMk_173 (by decide +kernel) (by decide +kernel) (by decide +kernel)
theorem zr_185_262 : zSnd 185 262 (o_iload 6 264) := zS_iload (by decide +kernel) rfl
theorem zr_185_264 : zSnd 185 264 (o_cle 277 267) := zS_cle (by decide +kernel : decode (zmB 185) 264 = .ok (.if_icmp .le 13, 3)) rfl (by decide)
theorem zr_185_267 : zSnd 185 267 (o_iload 11 269) := zS_iload (by decide +kernel) rfl
theorem zr_185_269 : zSnd 185 269 (o_const 3 270) := zS_iconst (by decide +kernel) rfl (by decide)
theorem zr_185_270 : zSnd 185 270 (o_aload 3 271) := zS_aload_n (i := 3) (by decide +kernel) rfl rfl
theorem zr_185_271 : zSnd 185 271 (o_call 173 3 3 1 274) := zS_callS (idx := 16) (by decide +kernel) rfl zq_208 zq_209 (by decide +kernel) zMk_173 (by decide +kernel) (by decide +kernel) (by decide +kernel)
theorem zr_185_274 : zSnd 185 274 (o_goto 279) := zS_goto (by decide +kernel : decode (zmB 185) 274 = .ok (.goto 5, 3)) (by decide)
theorem zr_185_277 : zSnd 185 277 (o_iload 6 279) := zS_iload (by decide +kernel) rfl
theorem zr_185_279 : zSnd 185 279 (o_istore 6 281) := zS_istore (by decide +kernel) rfl (by decide +kernel)
theorem zr_185_281 : zSnd 185 281 (o_aload 3 282) := zS_aload_n (i := 3) (by decide +kernel) rfl rfl
theorem zr_185_282 : zSnd 185 282 (o_const 4 283) := zS_iconst (by decide +kernel) rfl (by decide)
theorem zr_185_283 : zSnd 185 283 (o_iload 11 285) := zS_iload (by decide +kernel) rfl
theorem zr_185_285 : zSnd 185 285 (o_imul 286) := zS_imul (by decide +kernel) rfl
theorem zr_185_286 : zSnd 185 286 (o_const 2 287) := zS_iconst (by decide +kernel) rfl (by decide)
theorem zr_185_287 : zSnd 185 287 (o_iadd 288) := zS_iadd (by decide +kernel) rfl
theorem zr_185_288 : zSnd 185 288 (o_iald 289) := zS_iald (by decide +kernel) rfl
theorem zr_185_289 : zSnd 185 289 (o_aload 3 290) := zS_aload_n (i := 3) (by decide +kernel) rfl rfl
theorem zr_185_290 : zSnd 185 290 (o_const 4 291) := zS_iconst (by decide +kernel) rfl (by decide)
theorem zr_185_291 : zSnd 185 291 (o_iload 11 293) := zS_iload (by decide +kernel) rfl
theorem zr_185_293 : zSnd 185 293 (o_imul 294) := zS_imul (by decide +kernel) rfl
theorem zr_185_294 : zSnd 185 294 (o_const 3 295) := zS_iconst (by decide +kernel) rfl (by decide)
theorem zr_185_295 : zSnd 185 295 (o_iadd 296) := zS_iadd (by decide +kernel) rfl
theorem zr_185_296 : zSnd 185 296 (o_iald 297) := zS_iald (by decide +kernel) rfl
theorem zr_185_297 : zSnd 185 297 (o_ceq 328 300) := zS_ceq (by decide +kernel : decode (zmB 185) 297 = .ok (.if_icmp .eq 31, 3)) rfl (by decide)
theorem zr_185_300 : zSnd 185 300 (o_aload 3 301) := zS_aload_n (i := 3) (by decide +kernel) rfl rfl
theorem zr_185_301 : zSnd 185 301 (o_const 4 302) := zS_iconst (by decide +kernel) rfl (by decide)
theorem zr_185_302 : zSnd 185 302 (o_iload 11 304) := zS_iload (by decide +kernel) rfl
theorem zr_185_304 : zSnd 185 304 (o_imul 305) := zS_imul (by decide +kernel) rfl
theorem zr_185_305 : zSnd 185 305 (o_const 2 306) := zS_iconst (by decide +kernel) rfl (by decide)
theorem zr_185_306 : zSnd 185 306 (o_iadd 307) := zS_iadd (by decide +kernel) rfl
theorem zr_185_307 : zSnd 185 307 (o_iald 308) := zS_iald (by decide +kernel) rfl
theorem zr_185_308 : zSnd 185 308 (o_const 1 309) := zS_iconst (by decide +kernel) rfl (by decide)
theorem zr_185_309 : zSnd 185 309 (o_iadd 310) := zS_iadd (by decide +kernel) rfl
theorem zr_185_310 : zSnd 185 310 (o_iload 7 312) := zS_iload (by decide +kernel) rfl
theorem zr_185_312 : zSnd 185 312 (o_cle 328 315) := zS_cle (by decide +kernel : decode (zmB 185) 312 = .ok (.if_icmp .le 16, 3)) rfl (by decide)
theorem zr_185_315 : zSnd 185 315 (o_aload 3 316) := zS_aload_n (i := 3) (by decide +kernel) rfl rfl
theorem zr_185_316 : zSnd 185 316 (o_const 4 317) := zS_iconst (by decide +kernel) rfl (by decide)
theorem zr_185_317 : zSnd 185 317 (o_iload 11 319) := zS_iload (by decide +kernel) rfl
theorem zr_185_319 : zSnd 185 319 (o_imul 320) := zS_imul (by decide +kernel) rfl
theorem zr_185_320 : zSnd 185 320 (o_const 2 321) := zS_iconst (by decide +kernel) rfl (by decide)
theorem zr_185_321 : zSnd 185 321 (o_iadd 322) := zS_iadd (by decide +kernel) rfl
theorem zr_185_322 : zSnd 185 322 (o_iald 323) := zS_iald (by decide +kernel) rfl
theorem zr_185_323 : zSnd 185 323 (o_const 1 324) := zS_iconst (by decide +kernel) rfl (by decide)
theorem zr_185_324 : zSnd 185 324 (o_iadd 325) := zS_iadd (by decide +kernel) rfl
theorem zr_185_325 : zSnd 185 325 (o_goto 330) := zS_goto (by decide +kernel : decode (zmB 185) 325 = .ok (.goto 5, 3)) (by decide)
theorem zr_185_328 : zSnd 185 328 (o_iload 7 330) := zS_iload (by decide +kernel) rfl
theorem zr_185_330 : zSnd 185 330 (o_istore 7 332) := zS_istore (by decide +kernel) rfl (by decide +kernel)
theorem zr_185_332 : zSnd 185 332 (o_const 0 333) := zS_iconst (by decide +kernel) rfl (by decide)
theorem zr_185_333 : zSnd 185 333 (o_istore 15 335) := zS_istore (by decide +kernel) rfl (by decide +kernel)
theorem zr_185_335 : zSnd 185 335 (o_const 0 336) := zS_iconst (by decide +kernel) rfl (by decide)
theorem zr_185_336 : zSnd 185 336 (o_istore 16 338) := zS_istore (by decide +kernel) rfl (by decide +kernel)
theorem zr_185_338 : zSnd 185 338 (o_iload 16 340) := zS_iload (by decide +kernel) rfl
theorem zr_185_340 : zSnd 185 340 (o_const 12 342) := zS_bipush (by decide +kernel) rfl (by decide) (by decide)
theorem zr_185_342 : zSnd 185 342 (o_cge 404 345) := zS_cge (by decide +kernel : decode (zmB 185) 342 = .ok (.if_icmp .ge 62, 3)) rfl (by decide)
theorem zr_185_345 : zSnd 185 345 (o_iload 15 347) := zS_iload (by decide +kernel) rfl
theorem zr_185_347 : zSnd 185 347 (o_iload 16 349) := zS_iload (by decide +kernel) rfl
theorem zr_185_349 : zSnd 185 349 (o_aload 2 350) := zS_aload_n (i := 2) (by decide +kernel) rfl rfl
theorem zr_185_350 : zSnd 185 350 (o_call 172 2 2 1 353) := zS_callS (idx := 20) (by decide +kernel) rfl zq_210 zq_211 (by decide +kernel) zMk_172 (by decide +kernel) (by decide +kernel) (by decide +kernel)
theorem zr_185_353 : zSnd 185 353 (o_ifeq 394 356) := zS_ifeq (by decide +kernel : decode (zmB 185) 353 = .ok (.ifCond .eq 41, 3)) rfl (by decide)
theorem zr_185_356 : zSnd 185 356 (o_aload 3 357) := zS_aload_n (i := 3) (by decide +kernel) rfl rfl
theorem zr_185_357 : zSnd 185 357 (o_const 4 358) := zS_iconst (by decide +kernel) rfl (by decide)
theorem zr_185_358 : zSnd 185 358 (o_iload 16 360) := zS_iload (by decide +kernel) rfl
theorem zr_185_360 : zSnd 185 360 (o_imul 361) := zS_imul (by decide +kernel) rfl
theorem zr_185_361 : zSnd 185 361 (o_iald 362) := zS_iald (by decide +kernel) rfl
theorem zr_185_362 : zSnd 185 362 (o_aload 3 363) := zS_aload_n (i := 3) (by decide +kernel) rfl rfl
theorem zr_185_363 : zSnd 185 363 (o_const 4 364) := zS_iconst (by decide +kernel) rfl (by decide)
theorem zr_185_364 : zSnd 185 364 (o_iload 11 366) := zS_iload (by decide +kernel) rfl
theorem zr_185_366 : zSnd 185 366 (o_imul 367) := zS_imul (by decide +kernel) rfl
theorem zr_185_367 : zSnd 185 367 (o_iald 368) := zS_iald (by decide +kernel) rfl
theorem zr_185_368 : zSnd 185 368 (o_cne 394 371) := zS_cne (by decide +kernel : decode (zmB 185) 368 = .ok (.if_icmp .ne 26, 3)) rfl (by decide)
theorem zr_185_371 : zSnd 185 371 (o_aload 3 372) := zS_aload_n (i := 3) (by decide +kernel) rfl rfl
theorem zr_185_372 : zSnd 185 372 (o_const 4 373) := zS_iconst (by decide +kernel) rfl (by decide)
theorem zr_185_373 : zSnd 185 373 (o_iload 16 375) := zS_iload (by decide +kernel) rfl
theorem zr_185_375 : zSnd 185 375 (o_imul 376) := zS_imul (by decide +kernel) rfl
theorem zr_185_376 : zSnd 185 376 (o_const 3 377) := zS_iconst (by decide +kernel) rfl (by decide)
theorem zr_185_377 : zSnd 185 377 (o_iadd 378) := zS_iadd (by decide +kernel) rfl
theorem zr_185_378 : zSnd 185 378 (o_iald 379) := zS_iald (by decide +kernel) rfl
theorem zr_185_379 : zSnd 185 379 (o_aload 3 380) := zS_aload_n (i := 3) (by decide +kernel) rfl rfl
theorem zr_185_380 : zSnd 185 380 (o_const 4 381) := zS_iconst (by decide +kernel) rfl (by decide)
theorem zr_185_381 : zSnd 185 381 (o_iload 11 383) := zS_iload (by decide +kernel) rfl
theorem zr_185_383 : zSnd 185 383 (o_imul 384) := zS_imul (by decide +kernel) rfl
theorem zr_185_384 : zSnd 185 384 (o_const 3 385) := zS_iconst (by decide +kernel) rfl (by decide)
theorem zr_185_385 : zSnd 185 385 (o_iadd 386) := zS_iadd (by decide +kernel) rfl
theorem zr_185_386 : zSnd 185 386 (o_iald 387) := zS_iald (by decide +kernel) rfl
theorem zr_185_387 : zSnd 185 387 (o_cge 394 390) := zS_cge (by decide +kernel : decode (zmB 185) 387 = .ok (.if_icmp .ge 7, 3)) rfl (by decide)
theorem zr_185_390 : zSnd 185 390 (o_const 1 391) := zS_iconst (by decide +kernel) rfl (by decide)
theorem zr_185_391 : zSnd 185 391 (o_goto 395) := zS_goto (by decide +kernel : decode (zmB 185) 391 = .ok (.goto 4, 3)) (by decide)
theorem zr_185_394 : zSnd 185 394 (o_const 0 395) := zS_iconst (by decide +kernel) rfl (by decide)
theorem zr_185_395 : zSnd 185 395 (o_iadd 396) := zS_iadd (by decide +kernel) rfl
theorem zr_185_396 : zSnd 185 396 (o_istore 15 398) := zS_istore (by decide +kernel) rfl (by decide +kernel)
theorem zr_185_398 : zSnd 185 398 (o_iinc 16 1 401) := zS_iinc (by decide +kernel) rfl (by decide +kernel)
theorem zr_185_401 : zSnd 185 401 (o_goto 338) := zS_goto (by decide +kernel : decode (zmB 185) 401 = .ok (.goto (-63), 3)) (by decide)
theorem zr_185_404 : zSnd 185 404 (o_iload 10 406) := zS_iload (by decide +kernel) rfl
theorem zr_185_406 : zSnd 185 406 (o_ifeq 434 409) := zS_ifeq (by decide +kernel : decode (zmB 185) 406 = .ok (.ifCond .eq 28, 3)) rfl (by decide)
theorem zr_185_409 : zSnd 185 409 (o_aload 0 410) := zS_aload_n (i := 0) (by decide +kernel) rfl rfl
theorem zr_185_410 : zSnd 185 410 (o_aload 3 411) := zS_aload_n (i := 3) (by decide +kernel) rfl rfl
theorem zr_185_411 : zSnd 185 411 (o_const 4 412) := zS_iconst (by decide +kernel) rfl (by decide)
theorem zr_185_412 : zSnd 185 412 (o_iload 11 414) := zS_iload (by decide +kernel) rfl
theorem zr_185_414 : zSnd 185 414 (o_imul 415) := zS_imul (by decide +kernel) rfl
theorem zr_185_415 : zSnd 185 415 (o_iald 416) := zS_iald (by decide +kernel) rfl
theorem zr_185_416 : zSnd 185 416 (o_iload 15 418) := zS_iload (by decide +kernel) rfl
theorem zr_185_418 : zSnd 185 418 (o_callv 5 16 3 3 1 421) := zS_callV (n := 2) (idx := 50) (by decide +kernel) rfl rfl (by decide) rfl zq_225 zq_226 zq_227 (by decide +kernel) zMk_16 (by decide +kernel) (by decide +kernel) (by decide +kernel)
theorem zr_185_421 : zSnd 185 421 (o_const 10 423) := zS_bipush (by decide +kernel) rfl (by decide) (by decide)
theorem zr_185_423 : zSnd 185 423 (o_iload 13 425) := zS_iload (by decide +kernel) rfl
theorem zr_185_425 : zSnd 185 425 (o_imul 426) := zS_imul (by decide +kernel) rfl
theorem zr_185_426 : zSnd 185 426 (o_iload 14 428) := zS_iload (by decide +kernel) rfl
theorem zr_185_428 : zSnd 185 428 (o_iadd 429) := zS_iadd (by decide +kernel) rfl
theorem zr_185_429 : zSnd 185 429 (o_ceq 434 432) := zS_ceq (by decide +kernel : decode (zmB 185) 429 = .ok (.if_icmp .eq 5, 3)) rfl (by decide)
theorem zr_185_432 : zSnd 185 432 (o_const 0 433) := zS_iconst (by decide +kernel) rfl (by decide)
theorem zr_185_433 : zSnd 185 433 (o_zret) := zS_zret (by decide +kernel) (by decide +kernel)
theorem zr_185_434 : zSnd 185 434 (o_iinc 11 1 437) := zS_iinc (by decide +kernel) rfl (by decide +kernel)
theorem zr_185_437 : zSnd 185 437 (o_goto 32) := zS_goto (by decide +kernel : decode (zmB 185) 437 = .ok (.goto (-405), 3)) (by decide)
theorem zr_185_440 : zSnd 185 440 (o_const 0 441) := zS_iconst (by decide +kernel) rfl (by decide)
theorem zr_185_441 : zSnd 185 441 (o_istore 11 443) := zS_istore (by decide +kernel) rfl (by decide +kernel)
theorem zr_185_443 : zSnd 185 443 (o_iload 11 445) := zS_iload (by decide +kernel) rfl
theorem zr_185_445 : zSnd 185 445 (o_const 3 446) := zS_iconst (by decide +kernel) rfl (by decide)
theorem zr_185_446 : zSnd 185 446 (o_cge 586 449) := zS_cge (by decide +kernel : decode (zmB 185) 446 = .ok (.if_icmp .ge 140, 3)) rfl (by decide)
theorem zr_185_449 : zSnd 185 449 (o_aload 2 450) := zS_aload_n (i := 2) (by decide +kernel) rfl rfl
theorem zr_185_450 : zSnd 185 450 (o_const 3 451) := zS_iconst (by decide +kernel) rfl (by decide)
theorem zr_185_451 : zSnd 185 451 (o_iload 11 453) := zS_iload (by decide +kernel) rfl
theorem zr_185_453 : zSnd 185 453 (o_imul 454) := zS_imul (by decide +kernel) rfl
theorem zr_185_454 : zSnd 185 454 (o_const 2 455) := zS_iconst (by decide +kernel) rfl (by decide)
theorem zr_185_455 : zSnd 185 455 (o_iadd 456) := zS_iadd (by decide +kernel) rfl
theorem zr_185_456 : zSnd 185 456 (o_iald 457) := zS_iald (by decide +kernel) rfl
theorem zr_185_457 : zSnd 185 457 (o_istore 12 459) := zS_istore (by decide +kernel) rfl (by decide +kernel)
theorem zr_185_459 : zSnd 185 459 (o_iload 12 461) := zS_iload (by decide +kernel) rfl
theorem zr_185_461 : zSnd 185 461 (o_ifeq 469 464) := zS_ifeq (by decide +kernel : decode (zmB 185) 461 = .ok (.ifCond .eq 8, 3)) rfl (by decide)
theorem zr_185_464 : zSnd 185 464 (o_iload 10 466) := zS_iload (by decide +kernel) rfl
theorem zr_185_466 : zSnd 185 466 (o_ifne 473 469) := zS_ifne (by decide +kernel : decode (zmB 185) 466 = .ok (.ifCond .ne 7, 3)) rfl (by decide)
theorem zr_185_469 : zSnd 185 469 (o_const (-1) 470) := zS_iconst (by decide +kernel) rfl (by decide)
theorem zr_185_470 : zSnd 185 470 (o_goto 487) := zS_goto (by decide +kernel : decode (zmB 185) 470 = .ok (.goto 17, 3)) (by decide)
theorem zr_185_473 : zSnd 185 473 (o_const 4 474) := zS_iconst (by decide +kernel) rfl (by decide)
theorem zr_185_474 : zSnd 185 474 (o_iload 11 476) := zS_iload (by decide +kernel) rfl
theorem zr_185_476 : zSnd 185 476 (o_imul 477) := zS_imul (by decide +kernel) rfl
theorem zr_185_477 : zSnd 185 477 (o_iload 12 479) := zS_iload (by decide +kernel) rfl
theorem zr_185_479 : zSnd 185 479 (o_iadd 480) := zS_iadd (by decide +kernel) rfl
theorem zr_185_480 : zSnd 185 480 (o_const 1 481) := zS_iconst (by decide +kernel) rfl (by decide)
theorem zr_185_481 : zSnd 185 481 (o_isub 482) := zS_isub (by decide +kernel) rfl
theorem zr_185_482 : zSnd 185 482 (o_const 3 483) := zS_iconst (by decide +kernel) rfl (by decide)
theorem zr_185_483 : zSnd 185 483 (o_aload 3 484) := zS_aload_n (i := 3) (by decide +kernel) rfl rfl
theorem zr_185_484 : zSnd 185 484 (o_call 173 3 3 1 487) := zS_callS (idx := 16) (by decide +kernel) rfl zq_208 zq_209 (by decide +kernel) zMk_173 (by decide +kernel) (by decide +kernel) (by decide +kernel)
theorem zr_185_487 : zSnd 185 487 (o_istore 13 489) := zS_istore (by decide +kernel) rfl (by decide +kernel)
theorem zr_185_489 : zSnd 185 489 (o_aload 0 490) := zS_aload_n (i := 0) (by decide +kernel) rfl rfl
theorem zr_185_490 : zSnd 185 490 (o_iload 11 492) := zS_iload (by decide +kernel) rfl
theorem zr_185_492 : zSnd 185 492 (o_const 1 493) := zS_iconst (by decide +kernel) rfl (by decide)
theorem zr_185_493 : zSnd 185 493 (o_callv 5 11 3 3 1 496) := zS_callV (n := 2) (idx := 54) (by decide +kernel) rfl rfl (by decide) rfl zq_228 zq_229 zq_230 (by decide +kernel) zMk_11 (by decide +kernel) (by decide +kernel) (by decide +kernel)
theorem zr_185_496 : zSnd 185 496 (o_aload 2 497) := zS_aload_n (i := 2) (by decide +kernel) rfl rfl
theorem zr_185_497 : zSnd 185 497 (o_const 3 498) := zS_iconst (by decide +kernel) rfl (by decide)
theorem zr_185_498 : zSnd 185 498 (o_iload 11 500) := zS_iload (by decide +kernel) rfl
theorem zr_185_500 : zSnd 185 500 (o_imul 501) := zS_imul (by decide +kernel) rfl
theorem zr_185_501 : zSnd 185 501 (o_const 1 502) := zS_iconst (by decide +kernel) rfl (by decide)
theorem zr_185_502 : zSnd 185 502 (o_iadd 503) := zS_iadd (by decide +kernel) rfl
theorem zr_185_503 : zSnd 185 503 (o_iald 504) := zS_iald (by decide +kernel) rfl
theorem zr_185_504 : zSnd 185 504 (o_cne 578 507) := zS_cne (by decide +kernel : decode (zmB 185) 504 = .ok (.if_icmp .ne 74, 3)) rfl (by decide)
theorem zr_185_507 : zSnd 185 507 (o_aload 0 508) := zS_aload_n (i := 0) (by decide +kernel) rfl rfl
theorem zr_185_508 : zSnd 185 508 (o_iload 11 510) := zS_iload (by decide +kernel) rfl
theorem zr_185_510 : zSnd 185 510 (o_const 2 511) := zS_iconst (by decide +kernel) rfl (by decide)
theorem zr_185_511 : zSnd 185 511 (o_callv 5 11 3 3 1 514) := zS_callV (n := 2) (idx := 54) (by decide +kernel) rfl rfl (by decide) rfl zq_228 zq_229 zq_230 (by decide +kernel) zMk_11 (by decide +kernel) (by decide +kernel) (by decide +kernel)
theorem zr_185_514 : zSnd 185 514 (o_iload 12 516) := zS_iload (by decide +kernel) rfl
theorem zr_185_516 : zSnd 185 516 (o_cne 578 519) := zS_cne (by decide +kernel : decode (zmB 185) 516 = .ok (.if_icmp .ne 62, 3)) rfl (by decide)
theorem zr_185_519 : zSnd 185 519 (o_aload 0 520) := zS_aload_n (i := 0) (by decide +kernel) rfl rfl
theorem zr_185_520 : zSnd 185 520 (o_iload 11 522) := zS_iload (by decide +kernel) rfl
theorem zr_185_522 : zSnd 185 522 (o_const 4 523) := zS_iconst (by decide +kernel) rfl (by decide)
theorem zr_185_523 : zSnd 185 523 (o_callv 5 11 3 3 1 526) := zS_callV (n := 2) (idx := 54) (by decide +kernel) rfl rfl (by decide) rfl zq_228 zq_229 zq_230 (by decide +kernel) zMk_11 (by decide +kernel) (by decide +kernel) (by decide +kernel)
theorem zr_185_526 : zSnd 185 526 (o_iload 13 528) := zS_iload (by decide +kernel) rfl
theorem zr_185_528 : zSnd 185 528 (o_cne 578 531) := zS_cne (by decide +kernel : decode (zmB 185) 528 = .ok (.if_icmp .ne 50, 3)) rfl (by decide)
theorem zr_185_531 : zSnd 185 531 (o_aload 0 532) := zS_aload_n (i := 0) (by decide +kernel) rfl rfl
theorem zr_185_532 : zSnd 185 532 (o_iload 11 534) := zS_iload (by decide +kernel) rfl
theorem zr_185_534 : zSnd 185 534 (o_const 5 535) := zS_iconst (by decide +kernel) rfl (by decide)
theorem zr_185_535 : zSnd 185 535 (o_callv 5 11 3 3 1 538) := zS_callV (n := 2) (idx := 54) (by decide +kernel) rfl rfl (by decide) rfl zq_228 zq_229 zq_230 (by decide +kernel) zMk_11 (by decide +kernel) (by decide +kernel) (by decide +kernel)
theorem zr_185_538 : zSnd 185 538 (o_iload 10 540) := zS_iload (by decide +kernel) rfl
theorem zr_185_540 : zSnd 185 540 (o_ifne 547 543) := zS_ifne (by decide +kernel : decode (zmB 185) 540 = .ok (.ifCond .ne 7, 3)) rfl (by decide)
theorem zr_185_543 : zSnd 185 543 (o_const (-1) 544) := zS_iconst (by decide +kernel) rfl (by decide)
theorem zr_185_544 : zSnd 185 544 (o_goto 575) := zS_goto (by decide +kernel : decode (zmB 185) 544 = .ok (.goto 31, 3)) (by decide)
theorem zr_185_547 : zSnd 185 547 (o_iload 13 549) := zS_iload (by decide +kernel) rfl
theorem zr_185_549 : zSnd 185 549 (o_aload 2 550) := zS_aload_n (i := 2) (by decide +kernel) rfl rfl
theorem zr_185_550 : zSnd 185 550 (o_const 3 551) := zS_iconst (by decide +kernel) rfl (by decide)
theorem zr_185_551 : zSnd 185 551 (o_iload 11 553) := zS_iload (by decide +kernel) rfl
theorem zr_185_553 : zSnd 185 553 (o_imul 554) := zS_imul (by decide +kernel) rfl
theorem zr_185_554 : zSnd 185 554 (o_const 1 555) := zS_iconst (by decide +kernel) rfl (by decide)
theorem zr_185_555 : zSnd 185 555 (o_iadd 556) := zS_iadd (by decide +kernel) rfl
theorem zr_185_556 : zSnd 185 556 (o_iald 557) := zS_iald (by decide +kernel) rfl
theorem zr_185_557 : zSnd 185 557 (o_cle 574 560) := zS_cle (by decide +kernel : decode (zmB 185) 557 = .ok (.if_icmp .le 17, 3)) rfl (by decide)
theorem zr_185_560 : zSnd 185 560 (o_iload 13 562) := zS_iload (by decide +kernel) rfl
theorem zr_185_562 : zSnd 185 562 (o_aload 2 563) := zS_aload_n (i := 2) (by decide +kernel) rfl rfl
theorem zr_185_563 : zSnd 185 563 (o_const 3 564) := zS_iconst (by decide +kernel) rfl (by decide)
theorem zr_185_564 : zSnd 185 564 (o_iload 11 566) := zS_iload (by decide +kernel) rfl
theorem zr_185_566 : zSnd 185 566 (o_imul 567) := zS_imul (by decide +kernel) rfl
theorem zr_185_567 : zSnd 185 567 (o_const 1 568) := zS_iconst (by decide +kernel) rfl (by decide)
theorem zr_185_568 : zSnd 185 568 (o_iadd 569) := zS_iadd (by decide +kernel) rfl
theorem zr_185_569 : zSnd 185 569 (o_iald 570) := zS_iald (by decide +kernel) rfl
theorem zr_185_570 : zSnd 185 570 (o_isub 571) := zS_isub (by decide +kernel) rfl
theorem zr_185_571 : zSnd 185 571 (o_goto 575) := zS_goto (by decide +kernel : decode (zmB 185) 571 = .ok (.goto 4, 3)) (by decide)
theorem zr_185_574 : zSnd 185 574 (o_const 0 575) := zS_iconst (by decide +kernel) rfl (by decide)
theorem zr_185_575 : zSnd 185 575 (o_ceq 580 578) := zS_ceq (by decide +kernel : decode (zmB 185) 575 = .ok (.if_icmp .eq 5, 3)) rfl (by decide)
theorem zr_185_578 : zSnd 185 578 (o_const 0 579) := zS_iconst (by decide +kernel) rfl (by decide)
theorem zr_185_579 : zSnd 185 579 (o_zret) := zS_zret (by decide +kernel) (by decide +kernel)
theorem zr_185_580 : zSnd 185 580 (o_iinc 11 1 583) := zS_iinc (by decide +kernel) rfl (by decide +kernel)
theorem zr_185_583 : zSnd 185 583 (o_goto 443) := zS_goto (by decide +kernel : decode (zmB 185) 583 = .ok (.goto (-140), 3)) (by decide)
theorem zr_185_586 : zSnd 185 586 (o_aload 0 587) := zS_aload_n (i := 0) (by decide +kernel) rfl rfl
theorem zr_185_587 : zSnd 185 587 (o_const 2 588) := zS_iconst (by decide +kernel) rfl (by decide)
theorem zr_185_588 : zSnd 185 588 (o_callv 5 14 2 2 1 591) := zS_callV (n := 1) (idx := 57) (by decide +kernel) rfl rfl (by decide) rfl zq_231 zq_232 zq_233 (by decide +kernel) zMk_14 (by decide +kernel) (by decide +kernel) (by decide +kernel)
theorem zr_185_591 : zSnd 185 591 (o_iload 8 593) := zS_iload (by decide +kernel) rfl
theorem zr_185_593 : zSnd 185 593 (o_cne 629 596) := zS_cne (by decide +kernel : decode (zmB 185) 593 = .ok (.if_icmp .ne 36, 3)) rfl (by decide)
theorem zr_185_596 : zSnd 185 596 (o_aload 0 597) := zS_aload_n (i := 0) (by decide +kernel) rfl rfl
theorem zr_185_597 : zSnd 185 597 (o_const 3 598) := zS_iconst (by decide +kernel) rfl (by decide)
theorem zr_185_598 : zSnd 185 598 (o_callv 5 14 2 2 1 601) := zS_callV (n := 1) (idx := 57) (by decide +kernel) rfl rfl (by decide) rfl zq_231 zq_232 zq_233 (by decide +kernel) zMk_14 (by decide +kernel) (by decide +kernel) (by decide +kernel)
theorem zr_185_601 : zSnd 185 601 (o_aload 1 602) := zS_aload_n (i := 1) (by decide +kernel) rfl rfl
theorem zr_185_602 : zSnd 185 602 (o_const 0 603) := zS_iconst (by decide +kernel) rfl (by decide)
theorem zr_185_603 : zSnd 185 603 (o_iald 604) := zS_iald (by decide +kernel) rfl
theorem zr_185_604 : zSnd 185 604 (o_cne 629 607) := zS_cne (by decide +kernel : decode (zmB 185) 604 = .ok (.if_icmp .ne 25, 3)) rfl (by decide)
theorem zr_185_607 : zSnd 185 607 (o_aload 0 608) := zS_aload_n (i := 0) (by decide +kernel) rfl rfl
theorem zr_185_608 : zSnd 185 608 (o_const 4 609) := zS_iconst (by decide +kernel) rfl (by decide)
theorem zr_185_609 : zSnd 185 609 (o_callv 5 14 2 2 1 612) := zS_callV (n := 1) (idx := 57) (by decide +kernel) rfl rfl (by decide) rfl zq_231 zq_232 zq_233 (by decide +kernel) zMk_14 (by decide +kernel) (by decide +kernel) (by decide +kernel)
theorem zr_185_612 : zSnd 185 612 (o_aload 1 613) := zS_aload_n (i := 1) (by decide +kernel) rfl rfl
theorem zr_185_613 : zSnd 185 613 (o_const 1 614) := zS_iconst (by decide +kernel) rfl (by decide)
theorem zr_185_614 : zSnd 185 614 (o_iald 615) := zS_iald (by decide +kernel) rfl
theorem zr_185_615 : zSnd 185 615 (o_cne 629 618) := zS_cne (by decide +kernel : decode (zmB 185) 615 = .ok (.if_icmp .ne 14, 3)) rfl (by decide)
theorem zr_185_618 : zSnd 185 618 (o_aload 0 619) := zS_aload_n (i := 0) (by decide +kernel) rfl rfl
theorem zr_185_619 : zSnd 185 619 (o_const 5 620) := zS_iconst (by decide +kernel) rfl (by decide)
theorem zr_185_620 : zSnd 185 620 (o_callv 5 14 2 2 1 623) := zS_callV (n := 1) (idx := 57) (by decide +kernel) rfl rfl (by decide) rfl zq_231 zq_232 zq_233 (by decide +kernel) zMk_14 (by decide +kernel) (by decide +kernel) (by decide +kernel)
theorem zr_185_623 : zSnd 185 623 (o_aload 1 624) := zS_aload_n (i := 1) (by decide +kernel) rfl rfl
theorem zr_185_624 : zSnd 185 624 (o_const 2 625) := zS_iconst (by decide +kernel) rfl (by decide)
theorem zr_185_625 : zSnd 185 625 (o_iald 626) := zS_iald (by decide +kernel) rfl
theorem zr_185_626 : zSnd 185 626 (o_ceq 631 629) := zS_ceq (by decide +kernel : decode (zmB 185) 626 = .ok (.if_icmp .eq 5, 3)) rfl (by decide)
theorem zr_185_629 : zSnd 185 629 (o_const 0 630) := zS_iconst (by decide +kernel) rfl (by decide)
theorem zr_185_630 : zSnd 185 630 (o_zret) := zS_zret (by decide +kernel) (by decide +kernel)
theorem zr_185_631 : zSnd 185 631 (o_iload 10 633) := zS_iload (by decide +kernel) rfl
theorem zr_185_633 : zSnd 185 633 (o_ifne 717 636) := zS_ifne (by decide +kernel : decode (zmB 185) 633 = .ok (.ifCond .ne 84, 3)) rfl (by decide)
theorem zr_185_636 : zSnd 185 636 (o_aload 0 637) := zS_aload_n (i := 0) (by decide +kernel) rfl rfl
theorem zr_185_637 : zSnd 185 637 (o_const 6 639) := zS_bipush (by decide +kernel) rfl (by decide) (by decide)
theorem zr_185_639 : zSnd 185 639 (o_callv 5 14 2 2 1 642) := zS_callV (n := 1) (idx := 57) (by decide +kernel) rfl rfl (by decide) rfl zq_231 zq_232 zq_233 (by decide +kernel) zMk_14 (by decide +kernel) (by decide +kernel) (by decide +kernel)
theorem zr_185_642 : zSnd 185 642 (o_const (-1) 643) := zS_iconst (by decide +kernel) rfl (by decide)
theorem zr_185_643 : zSnd 185 643 (o_cne 715 646) := zS_cne (by decide +kernel : decode (zmB 185) 643 = .ok (.if_icmp .ne 72, 3)) rfl (by decide)
theorem zr_185_646 : zSnd 185 646 (o_aload 0 647) := zS_aload_n (i := 0) (by decide +kernel) rfl rfl
theorem zr_185_647 : zSnd 185 647 (o_const 7 649) := zS_bipush (by decide +kernel) rfl (by decide) (by decide)
theorem zr_185_649 : zSnd 185 649 (o_callv 5 14 2 2 1 652) := zS_callV (n := 1) (idx := 57) (by decide +kernel) rfl rfl (by decide) rfl zq_231 zq_232 zq_233 (by decide +kernel) zMk_14 (by decide +kernel) (by decide +kernel) (by decide +kernel)
theorem zr_185_652 : zSnd 185 652 (o_const (-1) 653) := zS_iconst (by decide +kernel) rfl (by decide)
theorem zr_185_653 : zSnd 185 653 (o_cne 715 656) := zS_cne (by decide +kernel : decode (zmB 185) 653 = .ok (.if_icmp .ne 62, 3)) rfl (by decide)
theorem zr_185_656 : zSnd 185 656 (o_aload 0 657) := zS_aload_n (i := 0) (by decide +kernel) rfl rfl
theorem zr_185_657 : zSnd 185 657 (o_const 8 659) := zS_bipush (by decide +kernel) rfl (by decide) (by decide)
theorem zr_185_659 : zSnd 185 659 (o_callv 5 14 2 2 1 662) := zS_callV (n := 1) (idx := 57) (by decide +kernel) rfl rfl (by decide) rfl zq_231 zq_232 zq_233 (by decide +kernel) zMk_14 (by decide +kernel) (by decide +kernel) (by decide +kernel)
theorem zr_185_662 : zSnd 185 662 (o_const (-1) 663) := zS_iconst (by decide +kernel) rfl (by decide)
theorem zr_185_663 : zSnd 185 663 (o_cne 715 666) := zS_cne (by decide +kernel : decode (zmB 185) 663 = .ok (.if_icmp .ne 52, 3)) rfl (by decide)
theorem zr_185_666 : zSnd 185 666 (o_aload 0 667) := zS_aload_n (i := 0) (by decide +kernel) rfl rfl
theorem zr_185_667 : zSnd 185 667 (o_const 9 669) := zS_bipush (by decide +kernel) rfl (by decide) (by decide)
theorem zr_185_669 : zSnd 185 669 (o_callv 5 14 2 2 1 672) := zS_callV (n := 1) (idx := 57) (by decide +kernel) rfl rfl (by decide) rfl zq_231 zq_232 zq_233 (by decide +kernel) zMk_14 (by decide +kernel) (by decide +kernel) (by decide +kernel)
theorem zr_185_672 : zSnd 185 672 (o_const (-1) 673) := zS_iconst (by decide +kernel) rfl (by decide)
theorem zr_185_673 : zSnd 185 673 (o_cne 715 676) := zS_cne (by decide +kernel : decode (zmB 185) 673 = .ok (.if_icmp .ne 42, 3)) rfl (by decide)
theorem zr_185_676 : zSnd 185 676 (o_aload 0 677) := zS_aload_n (i := 0) (by decide +kernel) rfl rfl
theorem zr_185_677 : zSnd 185 677 (o_callv 5 15 1 1 1 680) := zS_callV (n := 0) (idx := 61) (by decide +kernel) rfl rfl (by decide) rfl zq_234 zq_235 zq_236 (by decide +kernel) zMk_15 (by decide +kernel) (by decide +kernel) (by decide +kernel)
theorem zr_185_680 : zSnd 185 680 (o_const (-1) 681) := zS_iconst (by decide +kernel) rfl (by decide)
theorem zr_185_681 : zSnd 185 681 (o_cne 715 684) := zS_cne (by decide +kernel : decode (zmB 185) 681 = .ok (.if_icmp .ne 34, 3)) rfl (by decide)
theorem zr_185_684 : zSnd 185 684 (o_aload 0 685) := zS_aload_n (i := 0) (by decide +kernel) rfl rfl
theorem zr_185_685 : zSnd 185 685 (o_callv 5 19 1 1 1 688) := zS_callV (n := 0) (idx := 65) (by decide +kernel) rfl rfl (by decide) rfl zq_237 zq_238 zq_239 (by decide +kernel) zMk_19 (by decide +kernel) (by decide +kernel) (by decide +kernel)
theorem zr_185_688 : zSnd 185 688 (o_const (-1) 689) := zS_iconst (by decide +kernel) rfl (by decide)
theorem zr_185_689 : zSnd 185 689 (o_cne 715 692) := zS_cne (by decide +kernel : decode (zmB 185) 689 = .ok (.if_icmp .ne 26, 3)) rfl (by decide)
theorem zr_185_692 : zSnd 185 692 (o_us0 701) := zS_us0 (idx := 68) zq_240 zq_241 zq_242 zq_243 zq_244
theorem zr_185_701 : zSnd 185 701 (o_aload 0 702) := zS_aload_n (i := 0) (by decide +kernel) rfl rfl
theorem zr_185_702 : zSnd 185 702 (o_const 0 703) := zS_iconst (by decide +kernel) rfl (by decide)
theorem zr_185_703 : zSnd 185 703 (o_const 0 704) := zS_iconst (by decide +kernel) rfl (by decide)
theorem zr_185_704 : zSnd 185 704 (o_callv 5 16 3 3 1 707) := zS_callV (n := 2) (idx := 50) (by decide +kernel) rfl rfl (by decide) rfl zq_225 zq_226 zq_227 (by decide +kernel) zMk_16 (by decide +kernel) (by decide +kernel) (by decide +kernel)
theorem zr_185_707 : zSnd 185 707 (o_const (-1) 708) := zS_iconst (by decide +kernel) rfl (by decide)
theorem zr_185_708 : zSnd 185 708 (o_cne 715 711) := zS_cne (by decide +kernel : decode (zmB 185) 708 = .ok (.if_icmp .ne 7, 3)) rfl (by decide)
theorem zr_185_711 : zSnd 185 711 (o_const 1 712) := zS_iconst (by decide +kernel) rfl (by decide)
theorem zr_185_712 : zSnd 185 712 (o_goto 716) := zS_goto (by decide +kernel : decode (zmB 185) 712 = .ok (.goto 4, 3)) (by decide)
theorem zr_185_715 : zSnd 185 715 (o_const 0 716) := zS_iconst (by decide +kernel) rfl (by decide)
theorem zr_185_716 : zSnd 185 716 (o_zret) := zS_zret (by decide +kernel) (by decide +kernel)
theorem zr_185_717 : zSnd 185 717 (o_aload 0 718) := zS_aload_n (i := 0) (by decide +kernel) rfl rfl
theorem zr_185_718 : zSnd 185 718 (o_const 6 720) := zS_bipush (by decide +kernel) rfl (by decide) (by decide)
theorem zr_185_720 : zSnd 185 720 (o_callv 5 14 2 2 1 723) := zS_callV (n := 1) (idx := 57) (by decide +kernel) rfl rfl (by decide) rfl zq_231 zq_232 zq_233 (by decide +kernel) zMk_14 (by decide +kernel) (by decide +kernel) (by decide +kernel)
theorem zr_185_723 : zSnd 185 723 (o_const 2 724) := zS_iconst (by decide +kernel) rfl (by decide)
theorem zr_185_724 : zSnd 185 724 (o_aload 2 725) := zS_aload_n (i := 2) (by decide +kernel) rfl rfl
theorem zr_185_725 : zSnd 185 725 (o_aload 3 726) := zS_aload_n (i := 3) (by decide +kernel) rfl rfl
theorem zr_185_726 : zSnd 185 726 (o_call 180 3 7 1 729) := zS_callS (idx := 72) (by decide +kernel) rfl zq_245 zq_246 (by decide +kernel) zMk_180 (by decide +kernel) (by decide +kernel) (by decide +kernel)
theorem zr_185_729 : zSnd 185 729 (o_cne 808 732) := zS_cne (by decide +kernel : decode (zmB 185) 729 = .ok (.if_icmp .ne 79, 3)) rfl (by decide)
theorem zr_185_732 : zSnd 185 732 (o_aload 0 733) := zS_aload_n (i := 0) (by decide +kernel) rfl rfl
theorem zr_185_733 : zSnd 185 733 (o_const 7 735) := zS_bipush (by decide +kernel) rfl (by decide) (by decide)
theorem zr_185_735 : zSnd 185 735 (o_callv 5 14 2 2 1 738) := zS_callV (n := 1) (idx := 57) (by decide +kernel) rfl rfl (by decide) rfl zq_231 zq_232 zq_233 (by decide +kernel) zMk_14 (by decide +kernel) (by decide +kernel) (by decide +kernel)
theorem zr_185_738 : zSnd 185 738 (o_const 3 739) := zS_iconst (by decide +kernel) rfl (by decide)
theorem zr_185_739 : zSnd 185 739 (o_aload 2 740) := zS_aload_n (i := 2) (by decide +kernel) rfl rfl
theorem zr_185_740 : zSnd 185 740 (o_aload 3 741) := zS_aload_n (i := 3) (by decide +kernel) rfl rfl
theorem zr_185_741 : zSnd 185 741 (o_call 180 3 7 1 744) := zS_callS (idx := 72) (by decide +kernel) rfl zq_245 zq_246 (by decide +kernel) zMk_180 (by decide +kernel) (by decide +kernel) (by decide +kernel)
theorem zr_185_744 : zSnd 185 744 (o_cne 808 747) := zS_cne (by decide +kernel : decode (zmB 185) 744 = .ok (.if_icmp .ne 64, 3)) rfl (by decide)
theorem zr_185_747 : zSnd 185 747 (o_aload 0 748) := zS_aload_n (i := 0) (by decide +kernel) rfl rfl
theorem zr_185_748 : zSnd 185 748 (o_const 8 750) := zS_bipush (by decide +kernel) rfl (by decide) (by decide)
theorem zr_185_750 : zSnd 185 750 (o_callv 5 14 2 2 1 753) := zS_callV (n := 1) (idx := 57) (by decide +kernel) rfl rfl (by decide) rfl zq_231 zq_232 zq_233 (by decide +kernel) zMk_14 (by decide +kernel) (by decide +kernel) (by decide +kernel)
theorem zr_185_753 : zSnd 185 753 (o_iload 6 755) := zS_iload (by decide +kernel) rfl
theorem zr_185_755 : zSnd 185 755 (o_cne 808 758) := zS_cne (by decide +kernel : decode (zmB 185) 755 = .ok (.if_icmp .ne 53, 3)) rfl (by decide)
theorem zr_185_758 : zSnd 185 758 (o_aload 0 759) := zS_aload_n (i := 0) (by decide +kernel) rfl rfl
theorem zr_185_759 : zSnd 185 759 (o_const 9 761) := zS_bipush (by decide +kernel) rfl (by decide) (by decide)
theorem zr_185_761 : zSnd 185 761 (o_callv 5 14 2 2 1 764) := zS_callV (n := 1) (idx := 57) (by decide +kernel) rfl rfl (by decide) rfl zq_231 zq_232 zq_233 (by decide +kernel) zMk_14 (by decide +kernel) (by decide +kernel) (by decide +kernel)
theorem zr_185_764 : zSnd 185 764 (o_iload 5 766) := zS_iload (by decide +kernel) rfl
theorem zr_185_766 : zSnd 185 766 (o_cne 808 769) := zS_cne (by decide +kernel : decode (zmB 185) 766 = .ok (.if_icmp .ne 42, 3)) rfl (by decide)
theorem zr_185_769 : zSnd 185 769 (o_aload 0 770) := zS_aload_n (i := 0) (by decide +kernel) rfl rfl
theorem zr_185_770 : zSnd 185 770 (o_callv 5 15 1 1 1 773) := zS_callV (n := 0) (idx := 61) (by decide +kernel) rfl rfl (by decide) rfl zq_234 zq_235 zq_236 (by decide +kernel) zMk_15 (by decide +kernel) (by decide +kernel) (by decide +kernel)
theorem zr_185_773 : zSnd 185 773 (o_iload 7 775) := zS_iload (by decide +kernel) rfl
theorem zr_185_775 : zSnd 185 775 (o_cne 808 778) := zS_cne (by decide +kernel : decode (zmB 185) 775 = .ok (.if_icmp .ne 33, 3)) rfl (by decide)
theorem zr_185_778 : zSnd 185 778 (o_us1 804) := zS_us1 (idx := 68) zq_240 zq_241 zq_242 zq_243 zq_244
theorem zr_185_804 : zSnd 185 804 (o_const 1 805) := zS_iconst (by decide +kernel) rfl (by decide)
theorem zr_185_805 : zSnd 185 805 (o_goto 809) := zS_goto (by decide +kernel : decode (zmB 185) 805 = .ok (.goto 4, 3)) (by decide)
theorem zr_185_808 : zSnd 185 808 (o_const 0 809) := zS_iconst (by decide +kernel) rfl (by decide)
theorem zr_185_809 : zSnd 185 809 (o_zret) := zS_zret (by decide +kernel) (by decide +kernel)
theorem zT_185 (pc : Nat) : zSnd 185 pc (zc_185 pc) := by
  unfold zc_185
  exact (zSn_nd (zSn_nd (zSn_nd (zSn_nd (zSn_nd (zSn_nd (zSn_nd (zSn_nd (zSn_lf zr_185_0) (zSn_nd (zSn_lf zr_185_1) (zSn_lf zr_185_3))) (zSn_nd (zSn_nd (zSn_lf zr_185_4) (zSn_lf zr_185_6)) (zSn_nd (zSn_lf zr_185_7) (zSn_lf zr_185_9)))) (zSn_nd (zSn_nd (zSn_lf zr_185_10) (zSn_nd (zSn_lf zr_185_12) (zSn_lf zr_185_13))) (zSn_nd (zSn_nd (zSn_lf zr_185_15) (zSn_lf zr_185_16)) (zSn_nd (zSn_lf zr_185_17) (zSn_lf zr_185_18))))) (zSn_nd (zSn_nd (zSn_nd (zSn_lf zr_185_19) (zSn_nd (zSn_lf zr_185_22) (zSn_lf zr_185_23))) (zSn_nd (zSn_nd (zSn_lf zr_185_26) (zSn_lf zr_185_27)) (zSn_nd (zSn_lf zr_185_29) (zSn_lf zr_185_30)))) (zSn_nd (zSn_nd (zSn_lf zr_185_32) (zSn_nd (zSn_lf zr_185_34) (zSn_lf zr_185_36))) (zSn_nd (zSn_nd (zSn_lf zr_185_39) (zSn_lf zr_185_41)) (zSn_nd (zSn_lf zr_185_42) (zSn_lf zr_185_45)))))) (zSn_nd (zSn_nd (zSn_nd (zSn_nd (zSn_lf zr_185_48) (zSn_nd (zSn_lf zr_185_51) (zSn_lf zr_185_53))) (zSn_nd (zSn_nd (zSn_lf zr_185_56) (zSn_lf zr_185_58)) (zSn_nd (zSn_lf zr_185_59) (zSn_lf zr_185_60)))) (zSn_nd (zSn_nd (zSn_lf zr_185_62) (zSn_nd (zSn_lf zr_185_63) (zSn_lf zr_185_64))) (zSn_nd (zSn_nd (zSn_lf zr_185_65) (zSn_lf zr_185_66)) (zSn_nd (zSn_lf zr_185_67) (zSn_lf zr_185_68))))) (zSn_nd (zSn_nd (zSn_nd (zSn_lf zr_185_70) (zSn_nd (zSn_lf zr_185_73) (zSn_lf zr_185_76))) (zSn_nd (zSn_nd (zSn_lf zr_185_77) (zSn_lf zr_185_80)) (zSn_nd (zSn_lf zr_185_81) (zSn_lf zr_185_83)))) (zSn_nd (zSn_nd (zSn_nd (zSn_lf zr_185_85) (zSn_lf zr_185_86)) (zSn_nd (zSn_lf zr_185_87) (zSn_lf zr_185_89))) (zSn_nd (zSn_nd (zSn_lf zr_185_91) (zSn_lf zr_185_92)) (zSn_nd (zSn_lf zr_185_93) (zSn_lf zr_185_95))))))) (zSn_nd (zSn_nd (zSn_nd (zSn_nd (zSn_nd (zSn_lf zr_185_96) (zSn_nd (zSn_lf zr_185_98) (zSn_lf zr_185_100))) (zSn_nd (zSn_nd (zSn_lf zr_185_101) (zSn_lf zr_185_104)) (zSn_nd (zSn_lf zr_185_105) (zSn_lf zr_185_106)))) (zSn_nd (zSn_nd (zSn_lf zr_185_108) (zSn_nd (zSn_lf zr_185_109) (zSn_lf zr_185_110))) (zSn_nd (zSn_nd (zSn_lf zr_185_113) (zSn_lf zr_185_114)) (zSn_nd (zSn_lf zr_185_116) (zSn_lf zr_185_118))))) (zSn_nd (zSn_nd (zSn_nd (zSn_lf zr_185_119) (zSn_nd (zSn_lf zr_185_122) (zSn_lf zr_185_123))) (zSn_nd (zSn_nd (zSn_lf zr_185_124) (zSn_lf zr_185_126)) (zSn_nd (zSn_lf zr_185_127) (zSn_lf zr_185_128)))) (zSn_nd (zSn_nd (zSn_lf zr_185_129) (zSn_nd (zSn_lf zr_185_130) (zSn_lf zr_185_133))) (zSn_nd (zSn_nd (zSn_lf zr_185_134) (zSn_lf zr_185_136)) (zSn_nd (zSn_lf zr_185_138) (zSn_lf zr_185_139)))))) (zSn_nd (zSn_nd (zSn_nd (zSn_nd (zSn_lf zr_185_142) (zSn_nd (zSn_lf zr_185_144) (zSn_lf zr_185_147))) (zSn_nd (zSn_nd (zSn_lf zr_185_148) (zSn_lf zr_185_149)) (zSn_nd (zSn_lf zr_185_151) (zSn_lf zr_185_152)))) (zSn_nd (zSn_nd (zSn_lf zr_185_153) (zSn_nd (zSn_lf zr_185_154) (zSn_lf zr_185_155))) (zSn_nd (zSn_nd (zSn_lf zr_185_158) (zSn_lf zr_185_159)) (zSn_nd (zSn_lf zr_185_162) (zSn_lf zr_185_163))))) (zSn_nd (zSn_nd (zSn_nd (zSn_lf zr_185_165) (zSn_nd (zSn_lf zr_185_167) (zSn_lf zr_185_168))) (zSn_nd (zSn_nd (zSn_lf zr_185_171) (zSn_lf zr_185_173)) (zSn_nd (zSn_lf zr_185_176) (zSn_lf zr_185_177)))) (zSn_nd (zSn_nd (zSn_nd (zSn_lf zr_185_178) (zSn_lf zr_185_180)) (zSn_nd (zSn_lf zr_185_181) (zSn_lf zr_185_182))) (zSn_nd (zSn_nd (zSn_lf zr_185_183) (zSn_lf zr_185_184)) (zSn_nd (zSn_lf zr_185_187) (zSn_lf zr_185_188)))))))) (zSn_nd (zSn_nd (zSn_nd (zSn_nd (zSn_nd (zSn_nd (zSn_lf zr_185_191) (zSn_nd (zSn_lf zr_185_192) (zSn_lf zr_185_194))) (zSn_nd (zSn_nd (zSn_lf zr_185_196) (zSn_lf zr_185_197)) (zSn_nd (zSn_lf zr_185_200) (zSn_lf zr_185_202)))) (zSn_nd (zSn_nd (zSn_lf zr_185_205) (zSn_nd (zSn_lf zr_185_207) (zSn_lf zr_185_210))) (zSn_nd (zSn_nd (zSn_lf zr_185_211) (zSn_lf zr_185_214)) (zSn_nd (zSn_lf zr_185_215) (zSn_lf zr_185_218))))) (zSn_nd (zSn_nd (zSn_nd (zSn_lf zr_185_219) (zSn_nd (zSn_lf zr_185_222) (zSn_lf zr_185_223))) (zSn_nd (zSn_nd (zSn_lf zr_185_224) (zSn_lf zr_185_227)) (zSn_nd (zSn_lf zr_185_229) (zSn_lf zr_185_231)))) (zSn_nd (zSn_nd (zSn_lf zr_185_234) (zSn_nd (zSn_lf zr_185_235) (zSn_lf zr_185_238))) (zSn_nd (zSn_nd (zSn_lf zr_185_239) (zSn_lf zr_185_240)) (zSn_nd (zSn_lf zr_185_242) (zSn_lf zr_185_244)))))) (zSn_nd (zSn_nd (zSn_nd (zSn_nd (zSn_lf zr_185_245) (zSn_nd (zSn_lf zr_185_246) (zSn_lf zr_185_248))) (zSn_nd (zSn_nd (zSn_lf zr_185_249) (zSn_lf zr_185_250)) (zSn_nd (zSn_lf zr_185_251) (zSn_lf zr_185_252)))) (zSn_nd (zSn_nd (zSn_lf zr_185_253) (zSn_nd (zSn_lf zr_185_255) (zSn_lf zr_185_257))) (zSn_nd (zSn_nd (zSn_lf zr_185_258) (zSn_lf zr_185_259)) (zSn_nd (zSn_lf zr_185_262) (zSn_lf zr_185_264))))) (zSn_nd (zSn_nd (zSn_nd (zSn_lf zr_185_267) (zSn_nd (zSn_lf zr_185_269) (zSn_lf zr_185_270))) (zSn_nd (zSn_nd (zSn_lf zr_185_271) (zSn_lf zr_185_274)) (zSn_nd (zSn_lf zr_185_277) (zSn_lf zr_185_279)))) (zSn_nd (zSn_nd (zSn_nd (zSn_lf zr_185_281) (zSn_lf zr_185_282)) (zSn_nd (zSn_lf zr_185_283) (zSn_lf zr_185_285))) (zSn_nd (zSn_nd (zSn_lf zr_185_286) (zSn_lf zr_185_287)) (zSn_nd (zSn_lf zr_185_288) (zSn_lf zr_185_289))))))) (zSn_nd (zSn_nd (zSn_nd (zSn_nd (zSn_nd (zSn_lf zr_185_290) (zSn_nd (zSn_lf zr_185_291) (zSn_lf zr_185_293))) (zSn_nd (zSn_nd (zSn_lf zr_185_294) (zSn_lf zr_185_295)) (zSn_nd (zSn_lf zr_185_296) (zSn_lf zr_185_297)))) (zSn_nd (zSn_nd (zSn_lf zr_185_300) (zSn_nd (zSn_lf zr_185_301) (zSn_lf zr_185_302))) (zSn_nd (zSn_nd (zSn_lf zr_185_304) (zSn_lf zr_185_305)) (zSn_nd (zSn_lf zr_185_306) (zSn_lf zr_185_307))))) (zSn_nd (zSn_nd (zSn_nd (zSn_lf zr_185_308) (zSn_nd (zSn_lf zr_185_309) (zSn_lf zr_185_310))) (zSn_nd (zSn_nd (zSn_lf zr_185_312) (zSn_lf zr_185_315)) (zSn_nd (zSn_lf zr_185_316) (zSn_lf zr_185_317)))) (zSn_nd (zSn_nd (zSn_lf zr_185_319) (zSn_nd (zSn_lf zr_185_320) (zSn_lf zr_185_321))) (zSn_nd (zSn_nd (zSn_lf zr_185_322) (zSn_lf zr_185_323)) (zSn_nd (zSn_lf zr_185_324) (zSn_lf zr_185_325)))))) (zSn_nd (zSn_nd (zSn_nd (zSn_nd (zSn_lf zr_185_328) (zSn_nd (zSn_lf zr_185_330) (zSn_lf zr_185_332))) (zSn_nd (zSn_nd (zSn_lf zr_185_333) (zSn_lf zr_185_335)) (zSn_nd (zSn_lf zr_185_336) (zSn_lf zr_185_338)))) (zSn_nd (zSn_nd (zSn_lf zr_185_340) (zSn_nd (zSn_lf zr_185_342) (zSn_lf zr_185_345))) (zSn_nd (zSn_nd (zSn_lf zr_185_347) (zSn_lf zr_185_349)) (zSn_nd (zSn_lf zr_185_350) (zSn_lf zr_185_353))))) (zSn_nd (zSn_nd (zSn_nd (zSn_lf zr_185_356) (zSn_nd (zSn_lf zr_185_357) (zSn_lf zr_185_358))) (zSn_nd (zSn_nd (zSn_lf zr_185_360) (zSn_lf zr_185_361)) (zSn_nd (zSn_lf zr_185_362) (zSn_lf zr_185_363)))) (zSn_nd (zSn_nd (zSn_nd (zSn_lf zr_185_364) (zSn_lf zr_185_366)) (zSn_nd (zSn_lf zr_185_367) (zSn_lf zr_185_368))) (zSn_nd (zSn_nd (zSn_lf zr_185_371) (zSn_lf zr_185_372)) (zSn_nd (zSn_lf zr_185_373) (zSn_lf zr_185_375))))))))) (zSn_nd (zSn_nd (zSn_nd (zSn_nd (zSn_nd (zSn_nd (zSn_nd (zSn_lf zr_185_376) (zSn_nd (zSn_lf zr_185_377) (zSn_lf zr_185_378))) (zSn_nd (zSn_nd (zSn_lf zr_185_379) (zSn_lf zr_185_380)) (zSn_nd (zSn_lf zr_185_381) (zSn_lf zr_185_383)))) (zSn_nd (zSn_nd (zSn_lf zr_185_384) (zSn_nd (zSn_lf zr_185_385) (zSn_lf zr_185_386))) (zSn_nd (zSn_nd (zSn_lf zr_185_387) (zSn_lf zr_185_390)) (zSn_nd (zSn_lf zr_185_391) (zSn_lf zr_185_394))))) (zSn_nd (zSn_nd (zSn_nd (zSn_lf zr_185_395) (zSn_nd (zSn_lf zr_185_396) (zSn_lf zr_185_398))) (zSn_nd (zSn_nd (zSn_lf zr_185_401) (zSn_lf zr_185_404)) (zSn_nd (zSn_lf zr_185_406) (zSn_lf zr_185_409)))) (zSn_nd (zSn_nd (zSn_lf zr_185_410) (zSn_nd (zSn_lf zr_185_411) (zSn_lf zr_185_412))) (zSn_nd (zSn_nd (zSn_lf zr_185_414) (zSn_lf zr_185_415)) (zSn_nd (zSn_lf zr_185_416) (zSn_lf zr_185_418)))))) (zSn_nd (zSn_nd (zSn_nd (zSn_nd (zSn_lf zr_185_421) (zSn_nd (zSn_lf zr_185_423) (zSn_lf zr_185_425))) (zSn_nd (zSn_nd (zSn_lf zr_185_426) (zSn_lf zr_185_428)) (zSn_nd (zSn_lf zr_185_429) (zSn_lf zr_185_432)))) (zSn_nd (zSn_nd (zSn_lf zr_185_433) (zSn_nd (zSn_lf zr_185_434) (zSn_lf zr_185_437))) (zSn_nd (zSn_nd (zSn_lf zr_185_440) (zSn_lf zr_185_441)) (zSn_nd (zSn_lf zr_185_443) (zSn_lf zr_185_445))))) (zSn_nd (zSn_nd (zSn_nd (zSn_lf zr_185_446) (zSn_nd (zSn_lf zr_185_449) (zSn_lf zr_185_450))) (zSn_nd (zSn_nd (zSn_lf zr_185_451) (zSn_lf zr_185_453)) (zSn_nd (zSn_lf zr_185_454) (zSn_lf zr_185_455)))) (zSn_nd (zSn_nd (zSn_nd (zSn_lf zr_185_456) (zSn_lf zr_185_457)) (zSn_nd (zSn_lf zr_185_459) (zSn_lf zr_185_461))) (zSn_nd (zSn_nd (zSn_lf zr_185_464) (zSn_lf zr_185_466)) (zSn_nd (zSn_lf zr_185_469) (zSn_lf zr_185_470))))))) (zSn_nd (zSn_nd (zSn_nd (zSn_nd (zSn_nd (zSn_lf zr_185_473) (zSn_nd (zSn_lf zr_185_474) (zSn_lf zr_185_476))) (zSn_nd (zSn_nd (zSn_lf zr_185_477) (zSn_lf zr_185_479)) (zSn_nd (zSn_lf zr_185_480) (zSn_lf zr_185_481)))) (zSn_nd (zSn_nd (zSn_lf zr_185_482) (zSn_nd (zSn_lf zr_185_483) (zSn_lf zr_185_484))) (zSn_nd (zSn_nd (zSn_lf zr_185_487) (zSn_lf zr_185_489)) (zSn_nd (zSn_lf zr_185_490) (zSn_lf zr_185_492))))) (zSn_nd (zSn_nd (zSn_nd (zSn_lf zr_185_493) (zSn_nd (zSn_lf zr_185_496) (zSn_lf zr_185_497))) (zSn_nd (zSn_nd (zSn_lf zr_185_498) (zSn_lf zr_185_500)) (zSn_nd (zSn_lf zr_185_501) (zSn_lf zr_185_502)))) (zSn_nd (zSn_nd (zSn_lf zr_185_503) (zSn_nd (zSn_lf zr_185_504) (zSn_lf zr_185_507))) (zSn_nd (zSn_nd (zSn_lf zr_185_508) (zSn_lf zr_185_510)) (zSn_nd (zSn_lf zr_185_511) (zSn_lf zr_185_514)))))) (zSn_nd (zSn_nd (zSn_nd (zSn_nd (zSn_lf zr_185_516) (zSn_nd (zSn_lf zr_185_519) (zSn_lf zr_185_520))) (zSn_nd (zSn_nd (zSn_lf zr_185_522) (zSn_lf zr_185_523)) (zSn_nd (zSn_lf zr_185_526) (zSn_lf zr_185_528)))) (zSn_nd (zSn_nd (zSn_lf zr_185_531) (zSn_nd (zSn_lf zr_185_532) (zSn_lf zr_185_534))) (zSn_nd (zSn_nd (zSn_lf zr_185_535) (zSn_lf zr_185_538)) (zSn_nd (zSn_lf zr_185_540) (zSn_lf zr_185_543))))) (zSn_nd (zSn_nd (zSn_nd (zSn_lf zr_185_544) (zSn_nd (zSn_lf zr_185_547) (zSn_lf zr_185_549))) (zSn_nd (zSn_nd (zSn_lf zr_185_550) (zSn_lf zr_185_551)) (zSn_nd (zSn_lf zr_185_553) (zSn_lf zr_185_554)))) (zSn_nd (zSn_nd (zSn_nd (zSn_lf zr_185_555) (zSn_lf zr_185_556)) (zSn_nd (zSn_lf zr_185_557) (zSn_lf zr_185_560))) (zSn_nd (zSn_nd (zSn_lf zr_185_562) (zSn_lf zr_185_563)) (zSn_nd (zSn_lf zr_185_564) (zSn_lf zr_185_566)))))))) (zSn_nd (zSn_nd (zSn_nd (zSn_nd (zSn_nd (zSn_nd (zSn_lf zr_185_567) (zSn_nd (zSn_lf zr_185_568) (zSn_lf zr_185_569))) (zSn_nd (zSn_nd (zSn_lf zr_185_570) (zSn_lf zr_185_571)) (zSn_nd (zSn_lf zr_185_574) (zSn_lf zr_185_575)))) (zSn_nd (zSn_nd (zSn_lf zr_185_578) (zSn_nd (zSn_lf zr_185_579) (zSn_lf zr_185_580))) (zSn_nd (zSn_nd (zSn_lf zr_185_583) (zSn_lf zr_185_586)) (zSn_nd (zSn_lf zr_185_587) (zSn_lf zr_185_588))))) (zSn_nd (zSn_nd (zSn_nd (zSn_lf zr_185_591) (zSn_nd (zSn_lf zr_185_593) (zSn_lf zr_185_596))) (zSn_nd (zSn_nd (zSn_lf zr_185_597) (zSn_lf zr_185_598)) (zSn_nd (zSn_lf zr_185_601) (zSn_lf zr_185_602)))) (zSn_nd (zSn_nd (zSn_lf zr_185_603) (zSn_nd (zSn_lf zr_185_604) (zSn_lf zr_185_607))) (zSn_nd (zSn_nd (zSn_lf zr_185_608) (zSn_lf zr_185_609)) (zSn_nd (zSn_lf zr_185_612) (zSn_lf zr_185_613)))))) (zSn_nd (zSn_nd (zSn_nd (zSn_nd (zSn_lf zr_185_614) (zSn_nd (zSn_lf zr_185_615) (zSn_lf zr_185_618))) (zSn_nd (zSn_nd (zSn_lf zr_185_619) (zSn_lf zr_185_620)) (zSn_nd (zSn_lf zr_185_623) (zSn_lf zr_185_624)))) (zSn_nd (zSn_nd (zSn_lf zr_185_625) (zSn_nd (zSn_lf zr_185_626) (zSn_lf zr_185_629))) (zSn_nd (zSn_nd (zSn_lf zr_185_630) (zSn_lf zr_185_631)) (zSn_nd (zSn_lf zr_185_633) (zSn_lf zr_185_636))))) (zSn_nd (zSn_nd (zSn_nd (zSn_lf zr_185_637) (zSn_nd (zSn_lf zr_185_639) (zSn_lf zr_185_642))) (zSn_nd (zSn_nd (zSn_lf zr_185_643) (zSn_lf zr_185_646)) (zSn_nd (zSn_lf zr_185_647) (zSn_lf zr_185_649)))) (zSn_nd (zSn_nd (zSn_nd (zSn_lf zr_185_652) (zSn_lf zr_185_653)) (zSn_nd (zSn_lf zr_185_656) (zSn_lf zr_185_657))) (zSn_nd (zSn_nd (zSn_lf zr_185_659) (zSn_lf zr_185_662)) (zSn_nd (zSn_lf zr_185_663) (zSn_lf zr_185_666))))))) (zSn_nd (zSn_nd (zSn_nd (zSn_nd (zSn_nd (zSn_lf zr_185_667) (zSn_nd (zSn_lf zr_185_669) (zSn_lf zr_185_672))) (zSn_nd (zSn_nd (zSn_lf zr_185_673) (zSn_lf zr_185_676)) (zSn_nd (zSn_lf zr_185_677) (zSn_lf zr_185_680)))) (zSn_nd (zSn_nd (zSn_lf zr_185_681) (zSn_nd (zSn_lf zr_185_684) (zSn_lf zr_185_685))) (zSn_nd (zSn_nd (zSn_lf zr_185_688) (zSn_lf zr_185_689)) (zSn_nd (zSn_lf zr_185_692) (zSn_lf zr_185_701))))) (zSn_nd (zSn_nd (zSn_nd (zSn_lf zr_185_702) (zSn_nd (zSn_lf zr_185_703) (zSn_lf zr_185_704))) (zSn_nd (zSn_nd (zSn_lf zr_185_707) (zSn_lf zr_185_708)) (zSn_nd (zSn_lf zr_185_711) (zSn_lf zr_185_712)))) (zSn_nd (zSn_nd (zSn_nd (zSn_lf zr_185_715) (zSn_lf zr_185_716)) (zSn_nd (zSn_lf zr_185_717) (zSn_lf zr_185_718))) (zSn_nd (zSn_nd (zSn_lf zr_185_720) (zSn_lf zr_185_723)) (zSn_nd (zSn_lf zr_185_724) (zSn_lf zr_185_725)))))) (zSn_nd (zSn_nd (zSn_nd (zSn_nd (zSn_lf zr_185_726) (zSn_nd (zSn_lf zr_185_729) (zSn_lf zr_185_732))) (zSn_nd (zSn_nd (zSn_lf zr_185_733) (zSn_lf zr_185_735)) (zSn_nd (zSn_lf zr_185_738) (zSn_lf zr_185_739)))) (zSn_nd (zSn_nd (zSn_lf zr_185_740) (zSn_nd (zSn_lf zr_185_741) (zSn_lf zr_185_744))) (zSn_nd (zSn_nd (zSn_lf zr_185_747) (zSn_lf zr_185_748)) (zSn_nd (zSn_lf zr_185_750) (zSn_lf zr_185_753))))) (zSn_nd (zSn_nd (zSn_nd (zSn_lf zr_185_755) (zSn_nd (zSn_lf zr_185_758) (zSn_lf zr_185_759))) (zSn_nd (zSn_nd (zSn_lf zr_185_761) (zSn_lf zr_185_764)) (zSn_nd (zSn_lf zr_185_766) (zSn_lf zr_185_769)))) (zSn_nd (zSn_nd (zSn_nd (zSn_lf zr_185_770) (zSn_lf zr_185_773)) (zSn_nd (zSn_lf zr_185_775) (zSn_lf zr_185_778))) (zSn_nd (zSn_nd (zSn_lf zr_185_804) (zSn_lf zr_185_805)) (zSn_nd (zSn_lf zr_185_808) (zSn_lf zr_185_809))))))))))
