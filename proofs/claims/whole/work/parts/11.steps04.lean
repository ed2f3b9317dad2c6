/-! ===== 11: a row for each step (written by a program) ===== -/
theorem zr_88_0 : zSnd 88 0 (o_const 0 1) := zS_iconst (by decide +kernel) rfl (by decide)
theorem zr_88_1 : zSnd 88 1 (o_istore 1 2) := zS_istore_n (i := 1) (by decide +kernel) rfl rfl (by decide +kernel)
theorem zr_88_2 : zSnd 88 2 (o_const 0 3) := zS_iconst (by decide +kernel) rfl (by decide)
theorem zr_88_3 : zSnd 88 3 (o_istore 2 4) := zS_istore_n (i := 2) (by decide +kernel) rfl rfl (by decide +kernel)
theorem zr_88_4 : zSnd 88 4 (o_iload 2 5) := zS_iload_n (i := 2) (by decide +kernel) rfl rfl
theorem zr_88_5 : zSnd 88 5 (o_aload 0 6) := zS_aload_n (i := 0) (by decide +kernel) rfl rfl
theorem zr_88_6 : zSnd 88 6 (o_getf 6 1 9) := zS_getf (idx := 7) (by decide +kernel) rfl (by decide) rfl (by decide) rfl zin_6 zq_180
theorem zr_88_9 : zSnd 88 9 (o_const 1 10) := zS_iconst (by decide +kernel) rfl (by decide)
theorem zr_88_10 : zSnd 88 10 (o_iald 11) := zS_iald (by decide +kernel) rfl
theorem zr_88_11 : zSnd 88 11 (o_cge 29 14) := zS_cge (by decide +kernel : decode (zmB 88) 11 = .ok (.if_icmp .ge 18, 3)) rfl (by decide)
theorem zr_88_14 : zSnd 88 14 (o_iload 1 15) := zS_iload_n (i := 1) (by decide +kernel) rfl rfl
theorem zr_88_15 : zSnd 88 15 (o_aload 0 16) := zS_aload_n (i := 0) (by decide +kernel) rfl rfl
theorem zr_88_16 : zSnd 88 16 (o_iload 2 17) := zS_iload_n (i := 2) (by decide +kernel) rfl rfl
theorem zr_88_17 : zSnd 88 17 (o_const 2 18) := zS_iconst (by decide +kernel) rfl (by decide)
theorem zr_88_18 : zSnd 88 18 (o_callv 6 42 3 3 1 21) := zS_callV (n := 2) (idx := 45) (by decide +kernel) rfl rfl (by decide) rfl zq_190 zq_191 zq_192 (by decide +kernel) zMk_42 (by decide +kernel) (by decide +kernel) (by decide +kernel)
theorem zr_88_21 : zSnd 88 21 (o_iadd 22) := zS_iadd (by decide +kernel) rfl
theorem zr_88_22 : zSnd 88 22 (o_istore 1 23) := zS_istore_n (i := 1) (by decide +kernel) rfl rfl (by decide +kernel)
theorem zr_88_23 : zSnd 88 23 (o_iinc 2 1 26) := zS_iinc (by decide +kernel) rfl (by decide +kernel)
theorem zr_88_26 : zSnd 88 26 (o_goto 4) := zS_goto (by decide +kernel : decode (zmB 88) 26 = .ok (.goto (-22), 3)) (by decide)
theorem zr_88_29 : zSnd 88 29 (o_iload 1 30) := zS_iload_n (i := 1) (by decide +kernel) rfl rfl
theorem zr_88_30 : zSnd 88 30 (o_iret) := zS_iret (by decide +kernel) (by decide +kernel)
theorem zT_88 (pc : Nat) : zSnd 88 pc (zc_88 pc) := by
  unfold zc_88
  exact (zSn_nd (zSn_nd (zSn_nd (zSn_nd (zSn_lf zr_88_0) (zSn_lf zr_88_1)) (zSn_nd (zSn_lf zr_88_2) (zSn_nd (zSn_lf zr_88_3) (zSn_lf zr_88_4)))) (zSn_nd (zSn_nd (zSn_lf zr_88_5) (zSn_lf zr_88_6)) (zSn_nd (zSn_lf zr_88_9) (zSn_nd (zSn_lf zr_88_10) (zSn_lf zr_88_11))))) (zSn_nd (zSn_nd (zSn_nd (zSn_lf zr_88_14) (zSn_lf zr_88_15)) (zSn_nd (zSn_lf zr_88_16) (zSn_nd (zSn_lf zr_88_17) (zSn_lf zr_88_18)))) (zSn_nd (zSn_nd (zSn_lf zr_88_21) (zSn_nd (zSn_lf zr_88_22) (zSn_lf zr_88_23))) (zSn_nd (zSn_lf zr_88_26) (zSn_nd (zSn_lf zr_88_29) (zSn_lf zr_88_30))))))
theorem zr_89_0 : zSnd 89 0 (o_const 0 1) := zS_iconst (by decide +kernel) rfl (by decide)
theorem zr_89_1 : zSnd 89 1 (o_istore 1 2) := zS_istore_n (i := 1) (by decide +kernel) rfl rfl (by decide +kernel)
theorem zr_89_2 : zSnd 89 2 (o_const 0 3) := zS_iconst (by decide +kernel) rfl (by decide)
theorem zr_89_3 : zSnd 89 3 (o_istore 2 4) := zS_istore_n (i := 2) (by decide +kernel) rfl rfl (by decide +kernel)
theorem zr_89_4 : zSnd 89 4 (o_iload 2 5) := zS_iload_n (i := 2) (by decide +kernel) rfl rfl
theorem zr_89_5 : zSnd 89 5 (o_aload 0 6) := zS_aload_n (i := 0) (by decide +kernel) rfl rfl
theorem zr_89_6 : zSnd 89 6 (o_getf 6 1 9) := zS_getf (idx := 7) (by decide +kernel) rfl (by decide) rfl (by decide) rfl zin_6 zq_180
theorem zr_89_9 : zSnd 89 9 (o_const 1 10) := zS_iconst (by decide +kernel) rfl (by decide)
theorem zr_89_10 : zSnd 89 10 (o_iald 11) := zS_iald (by decide +kernel) rfl
theorem zr_89_11 : zSnd 89 11 (o_cge 47 14) := zS_cge (by decide +kernel : decode (zmB 89) 11 = .ok (.if_icmp .ge 36, 3)) rfl (by decide)
theorem zr_89_14 : zSnd 89 14 (o_const 0 15) := zS_iconst (by decide +kernel) rfl (by decide)
theorem zr_89_15 : zSnd 89 15 (o_istore 3 16) := zS_istore_n (i := 3) (by decide +kernel) rfl rfl (by decide +kernel)
theorem zr_89_16 : zSnd 89 16 (o_iload 3 17) := zS_iload_n (i := 3) (by decide +kernel) rfl rfl
theorem zr_89_17 : zSnd 89 17 (o_aload 0 18) := zS_aload_n (i := 0) (by decide +kernel) rfl rfl
theorem zr_89_18 : zSnd 89 18 (o_iload 2 19) := zS_iload_n (i := 2) (by decide +kernel) rfl rfl
theorem zr_89_19 : zSnd 89 19 (o_const 2 20) := zS_iconst (by decide +kernel) rfl (by decide)
theorem zr_89_20 : zSnd 89 20 (o_callv 6 42 3 3 1 23) := zS_callV (n := 2) (idx := 45) (by decide +kernel) rfl rfl (by decide) rfl zq_190 zq_191 zq_192 (by decide +kernel) zMk_42 (by decide +kernel) (by decide +kernel) (by decide +kernel)
theorem zr_89_23 : zSnd 89 23 (o_cge 41 26) := zS_cge (by decide +kernel : decode (zmB 89) 23 = .ok (.if_icmp .ge 18, 3)) rfl (by decide)
theorem zr_89_26 : zSnd 89 26 (o_iload 1 27) := zS_iload_n (i := 1) (by decide +kernel) rfl rfl
theorem zr_89_27 : zSnd 89 27 (o_aload 0 28) := zS_aload_n (i := 0) (by decide +kernel) rfl rfl
theorem zr_89_28 : zSnd 89 28 (o_iload 2 29) := zS_iload_n (i := 2) (by decide +kernel) rfl rfl
theorem zr_89_29 : zSnd 89 29 (o_iload 3 30) := zS_iload_n (i := 3) (by decide +kernel) rfl rfl
theorem zr_89_30 : zSnd 89 30 (o_callv 6 83 3 3 1 33) := zS_callV (n := 2) (idx := 141) (by decide +kernel) rfl rfl (by decide) rfl zq_278 zq_279 zq_280 (by decide +kernel) zMk_83 (by decide +kernel) (by decide +kernel) (by decide +kernel)
theorem zr_89_33 : zSnd 89 33 (o_iadd 34) := zS_iadd (by decide +kernel) rfl
theorem zr_89_34 : zSnd 89 34 (o_istore 1 35) := zS_istore_n (i := 1) (by decide +kernel) rfl rfl (by decide +kernel)
theorem zr_89_35 : zSnd 89 35 (o_iinc 3 1 38) := zS_iinc (by decide +kernel) rfl (by decide +kernel)
theorem zr_89_38 : zSnd 89 38 (o_goto 16) := zS_goto (by decide +kernel : decode (zmB 89) 38 = .ok (.goto (-22), 3)) (by decide)
theorem zr_89_41 : zSnd 89 41 (o_iinc 2 1 44) := zS_iinc (by decide +kernel) rfl (by decide +kernel)
theorem zr_89_44 : zSnd 89 44 (o_goto 4) := zS_goto (by decide +kernel : decode (zmB 89) 44 = .ok (.goto (-40), 3)) (by decide)
theorem zr_89_47 : zSnd 89 47 (o_iload 1 48) := zS_iload_n (i := 1) (by decide +kernel) rfl rfl
theorem zr_89_48 : zSnd 89 48 (o_iret) := zS_iret (by decide +kernel) (by decide +kernel)
theorem zT_89 (pc : Nat) : zSnd 89 pc (zc_89 pc) := by
  unfold zc_89
  exact (zSn_nd (zSn_nd (zSn_nd (zSn_nd (zSn_lf zr_89_0) (zSn_nd (zSn_lf zr_89_1) (zSn_lf zr_89_2))) (zSn_nd (zSn_nd (zSn_lf zr_89_3) (zSn_lf zr_89_4)) (zSn_nd (zSn_lf zr_89_5) (zSn_lf zr_89_6)))) (zSn_nd (zSn_nd (zSn_nd (zSn_lf zr_89_9) (zSn_lf zr_89_10)) (zSn_nd (zSn_lf zr_89_11) (zSn_lf zr_89_14))) (zSn_nd (zSn_nd (zSn_lf zr_89_15) (zSn_lf zr_89_16)) (zSn_nd (zSn_lf zr_89_17) (zSn_lf zr_89_18))))) (zSn_nd (zSn_nd (zSn_nd (zSn_nd (zSn_lf zr_89_19) (zSn_lf zr_89_20)) (zSn_nd (zSn_lf zr_89_23) (zSn_lf zr_89_26))) (zSn_nd (zSn_nd (zSn_lf zr_89_27) (zSn_lf zr_89_28)) (zSn_nd (zSn_lf zr_89_29) (zSn_lf zr_89_30)))) (zSn_nd (zSn_nd (zSn_nd (zSn_lf zr_89_33) (zSn_lf zr_89_34)) (zSn_nd (zSn_lf zr_89_35) (zSn_lf zr_89_38))) (zSn_nd (zSn_nd (zSn_lf zr_89_41) (zSn_lf zr_89_44)) (zSn_nd (zSn_lf zr_89_47) (zSn_lf zr_89_48))))))
theorem zr_90_0 : zSnd 90 0 (o_iload 1 1) := zS_iload_n (i := 1) (by decide +kernel) rfl rfl
theorem zr_90_1 : zSnd 90 1 (o_const 6 3) := zS_bipush (by decide +kernel) rfl (by decide) (by decide)
theorem zr_90_3 : zSnd 90 3 (o_clt 15 6) := zS_clt (by decide +kernel : decode (zmB 90) 3 = .ok (.if_icmp .lt 12, 3)) rfl (by decide)
theorem zr_90_6 : zSnd 90 6 (o_aload 0 7) := zS_aload_n (i := 0) (by decide +kernel) rfl rfl
theorem zr_90_7 : zSnd 90 7 (o_callv 6 73 1 1 1 10) := zS_callV (n := 0) (idx := 121) (by decide +kernel) rfl rfl (by decide) rfl zq_261 zq_262 zq_263 (by decide +kernel) zMk_73 (by decide +kernel) (by decide +kernel) (by decide +kernel)
theorem zr_90_10 : zSnd 90 10 (o_ifne 15 13) := zS_ifne (by decide +kernel : decode (zmB 90) 10 = .ok (.ifCond .ne 5, 3)) rfl (by decide)
theorem zr_90_13 : zSnd 90 13 (o_const (-1) 14) := zS_iconst (by decide +kernel) rfl (by decide)
theorem zr_90_14 : zSnd 90 14 (o_iret) := zS_iret (by decide +kernel) (by decide +kernel)
theorem zr_90_15 : zSnd 90 15 (o_iload 1 16) := zS_iload_n (i := 1) (by decide +kernel) rfl rfl
theorem zr_90_16 : zSnd 90 16 (o_sw [(0, 68), (1, 75), (2, 82), (3, 87), (4, 94), (5, 101), (6, 108), (7, 114), (8, 120)] 125) := zS_tsw (n := 9) (by decide +kernel : decode (zmB 90) 16 = .ok (.tableswitch 109 0 8 #[52, 59, 66, 71, 78, 85, 92, 98, 104], 52)) (by decide) (by decide +kernel) (by intro x hx; simp only [zsw]; (repeat' split) <;> omega) (by decide)
theorem zr_90_68 : zSnd 90 68 (o_aload 0 69) := zS_aload_n (i := 0) (by decide +kernel) rfl rfl
theorem zr_90_69 : zSnd 90 69 (o_getf 6 1 72) := zS_getf (idx := 7) (by decide +kernel) rfl (by decide) rfl (by decide) rfl zin_6 zq_180
theorem zr_90_72 : zSnd 90 72 (o_const 0 73) := zS_iconst (by decide +kernel) rfl (by decide)
theorem zr_90_73 : zSnd 90 73 (o_iald 74) := zS_iald (by decide +kernel) rfl
theorem zr_90_74 : zSnd 90 74 (o_iret) := zS_iret (by decide +kernel) (by decide +kernel)
theorem zr_90_75 : zSnd 90 75 (o_aload 0 76) := zS_aload_n (i := 0) (by decide +kernel) rfl rfl
theorem zr_90_76 : zSnd 90 76 (o_getf 6 1 79) := zS_getf (idx := 7) (by decide +kernel) rfl (by decide) rfl (by decide) rfl zin_6 zq_180
theorem zr_90_79 : zSnd 90 79 (o_const 1 80) := zS_iconst (by decide +kernel) rfl (by decide)
theorem zr_90_80 : zSnd 90 80 (o_iald 81) := zS_iald (by decide +kernel) rfl
theorem zr_90_81 : zSnd 90 81 (o_iret) := zS_iret (by decide +kernel) (by decide +kernel)
theorem zr_90_82 : zSnd 90 82 (o_aload 0 83) := zS_aload_n (i := 0) (by decide +kernel) rfl rfl
theorem zr_90_83 : zSnd 90 83 (o_callv 6 88 1 3 1 86) := zS_callV (n := 0) (idx := 147) (by decide +kernel) rfl rfl (by decide) rfl zq_284 zq_285 zq_286 (by decide +kernel) zMk_88 (by decide +kernel) (by decide +kernel) (by decide +kernel)
theorem zr_90_86 : zSnd 90 86 (o_iret) := zS_iret (by decide +kernel) (by decide +kernel)
theorem zr_90_87 : zSnd 90 87 (o_aload 0 88) := zS_aload_n (i := 0) (by decide +kernel) rfl rfl
theorem zr_90_88 : zSnd 90 88 (o_getf 6 1 91) := zS_getf (idx := 7) (by decide +kernel) rfl (by decide) rfl (by decide) rfl zin_6 zq_180
theorem zr_90_91 : zSnd 90 91 (o_const 2 92) := zS_iconst (by decide +kernel) rfl (by decide)
theorem zr_90_92 : zSnd 90 92 (o_iald 93) := zS_iald (by decide +kernel) rfl
theorem zr_90_93 : zSnd 90 93 (o_iret) := zS_iret (by decide +kernel) (by decide +kernel)
theorem zr_90_94 : zSnd 90 94 (o_aload 0 95) := zS_aload_n (i := 0) (by decide +kernel) rfl rfl
theorem zr_90_95 : zSnd 90 95 (o_getf 6 1 98) := zS_getf (idx := 7) (by decide +kernel) rfl (by decide) rfl (by decide) rfl zin_6 zq_180
theorem zr_90_98 : zSnd 90 98 (o_const 3 99) := zS_iconst (by decide +kernel) rfl (by decide)
theorem zr_90_99 : zSnd 90 99 (o_iald 100) := zS_iald (by decide +kernel) rfl
theorem zr_90_100 : zSnd 90 100 (o_iret) := zS_iret (by decide +kernel) (by decide +kernel)
theorem zr_90_101 : zSnd 90 101 (o_aload 0 102) := zS_aload_n (i := 0) (by decide +kernel) rfl rfl
theorem zr_90_102 : zSnd 90 102 (o_getf 6 1 105) := zS_getf (idx := 7) (by decide +kernel) rfl (by decide) rfl (by decide) rfl zin_6 zq_180
theorem zr_90_105 : zSnd 90 105 (o_const 4 106) := zS_iconst (by decide +kernel) rfl (by decide)
theorem zr_90_106 : zSnd 90 106 (o_iald 107) := zS_iald (by decide +kernel) rfl
theorem zr_90_107 : zSnd 90 107 (o_iret) := zS_iret (by decide +kernel) (by decide +kernel)
theorem zr_90_108 : zSnd 90 108 (o_aload 0 109) := zS_aload_n (i := 0) (by decide +kernel) rfl rfl
theorem zr_90_109 : zSnd 90 109 (o_const 2 110) := zS_iconst (by decide +kernel) rfl (by decide)
theorem zr_90_110 : zSnd 90 110 (o_callv 6 66 2 4 1 113) := zS_callV (n := 1) (idx := 115) (by decide +kernel) rfl rfl (by decide) rfl zq_255 zq_256 zq_257 (by decide +kernel) zMk_66 (by decide +kernel) (by decide +kernel) (by decide +kernel)
theorem zr_90_113 : zSnd 90 113 (o_iret) := zS_iret (by decide +kernel) (by decide +kernel)
theorem zr_90_114 : zSnd 90 114 (o_aload 0 115) := zS_aload_n (i := 0) (by decide +kernel) rfl rfl
theorem zr_90_115 : zSnd 90 115 (o_const 3 116) := zS_iconst (by decide +kernel) rfl (by decide)
theorem zr_90_116 : zSnd 90 116 (o_callv 6 66 2 4 1 119) := zS_callV (n := 1) (idx := 115) (by decide +kernel) rfl rfl (by decide) rfl zq_255 zq_256 zq_257 (by decide +kernel) zMk_66 (by decide +kernel) (by decide +kernel) (by decide +kernel)
theorem zr_90_119 : zSnd 90 119 (o_iret) := zS_iret (by decide +kernel) (by decide +kernel)
theorem zr_90_120 : zSnd 90 120 (o_aload 0 121) := zS_aload_n (i := 0) (by decide +kernel) rfl rfl
theorem zr_90_121 : zSnd 90 121 (o_callv 6 87 1 4 1 124) := zS_callV (n := 0) (idx := 151) (by decide +kernel) rfl rfl (by decide) rfl zq_287 zq_288 zq_289 (by decide +kernel) zMk_87 (by decide +kernel) (by decide +kernel) (by decide +kernel)
theorem zr_90_124 : zSnd 90 124 (o_iret) := zS_iret (by decide +kernel) (by decide +kernel)
theorem zr_90_125 : zSnd 90 125 (o_aload 0 126) := zS_aload_n (i := 0) (by decide +kernel) rfl rfl
theorem zr_90_126 : zSnd 90 126 (o_callv 6 89 1 4 1 129) := zS_callV (n := 0) (idx := 154) (by decide +kernel) rfl rfl (by decide) rfl zq_290 zq_291 zq_292 (by decide +kernel) zMk_89 (by decide +kernel) (by decide +kernel) (by decide +kernel)
theorem zr_90_129 : zSnd 90 129 (o_iret) := zS_iret (by decide +kernel) (by decide +kernel)
theorem zT_90 (pc : Nat) : zSnd 90 pc (zc_90 pc) := by
  unfold zc_90
  exact (zSn_nd (zSn_nd (zSn_nd (zSn_nd (zSn_nd (zSn_lf zr_90_0) (zSn_nd (zSn_lf zr_90_1) (zSn_lf zr_90_3))) (zSn_nd (zSn_lf zr_90_6) (zSn_nd (zSn_lf zr_90_7) (zSn_lf zr_90_10)))) (zSn_nd (zSn_nd (zSn_lf zr_90_13) (zSn_nd (zSn_lf zr_90_14) (zSn_lf zr_90_15))) (zSn_nd (zSn_nd (zSn_lf zr_90_16) (zSn_lf zr_90_68)) (zSn_nd (zSn_lf zr_90_69) (zSn_lf zr_90_72))))) (zSn_nd (zSn_nd (zSn_nd (zSn_lf zr_90_73) (zSn_nd (zSn_lf zr_90_74) (zSn_lf zr_90_75))) (zSn_nd (zSn_lf zr_90_76) (zSn_nd (zSn_lf zr_90_79) (zSn_lf zr_90_80)))) (zSn_nd (zSn_nd (zSn_lf zr_90_81) (zSn_nd (zSn_lf zr_90_82) (zSn_lf zr_90_83))) (zSn_nd (zSn_nd (zSn_lf zr_90_86) (zSn_lf zr_90_87)) (zSn_nd (zSn_lf zr_90_88) (zSn_lf zr_90_91)))))) (zSn_nd (zSn_nd (zSn_nd (zSn_nd (zSn_lf zr_90_92) (zSn_nd (zSn_lf zr_90_93) (zSn_lf zr_90_94))) (zSn_nd (zSn_lf zr_90_95) (zSn_nd (zSn_lf zr_90_98) (zSn_lf zr_90_99)))) (zSn_nd (zSn_nd (zSn_lf zr_90_100) (zSn_nd (zSn_lf zr_90_101) (zSn_lf zr_90_102))) (zSn_nd (zSn_nd (zSn_lf zr_90_105) (zSn_lf zr_90_106)) (zSn_nd (zSn_lf zr_90_107) (zSn_lf zr_90_108))))) (zSn_nd (zSn_nd (zSn_nd (zSn_lf zr_90_109) (zSn_nd (zSn_lf zr_90_110) (zSn_lf zr_90_113))) (zSn_nd (zSn_lf zr_90_114) (zSn_nd (zSn_lf zr_90_115) (zSn_lf zr_90_116)))) (zSn_nd (zSn_nd (zSn_lf zr_90_119) (zSn_nd (zSn_lf zr_90_120) (zSn_lf zr_90_121))) (zSn_nd (zSn_nd (zSn_lf zr_90_124) (zSn_lf zr_90_125)) (zSn_nd (zSn_lf zr_90_126) (zSn_lf zr_90_129)))))))
theorem zr_91_0 : zSnd 91 0 (o_aload 0 1) := zS_aload_n (i := 0) (by decide +kernel) rfl rfl
theorem zr_91_1 : zSnd 91 1 (o_iload 1 2) := zS_iload_n (i := 1) (by decide +kernel) rfl rfl
theorem zr_91_2 : zSnd 91 2 (o_const 0 3) := zS_iconst (by decide +kernel) rfl (by decide)
theorem zr_91_3 : zSnd 91 3 (o_const 9 5) := zS_bipush (by decide +kernel) rfl (by decide) (by decide)
theorem zr_91_5 : zSnd 91 5 (o_call 38 3 3 1 8) := zS_callS (idx := 33) (by decide +kernel) rfl zq_183 zq_184 (by decide +kernel) zMk_38 (by decide +kernel) (by decide +kernel) (by decide +kernel)
theorem zr_91_8 : zSnd 91 8 (o_ifeq 15 11) := zS_ifeq (by decide +kernel : decode (zmB 91) 8 = .ok (.ifCond .eq 7, 3)) rfl (by decide)
theorem zr_91_11 : zSnd 91 11 (o_const 0 12) := zS_iconst (by decide +kernel) rfl (by decide)
theorem zr_91_12 : zSnd 91 12 (o_goto 16) := zS_goto (by decide +kernel : decode (zmB 91) 12 = .ok (.goto 4, 3)) (by decide)
theorem zr_91_15 : zSnd 91 15 (o_const 1 16) := zS_iconst (by decide +kernel) rfl (by decide)
theorem zr_91_16 : zSnd 91 16 (o_putf 6 0 19) := zS_putf (idx := 22) (by decide +kernel) rfl (by decide) rfl (by decide) rfl zin_6 tyX5_ok nmX5 rfl (by decide +kernel) zq_177
theorem zr_91_19 : zSnd 91 19 (o_aload 0 20) := zS_aload_n (i := 0) (by decide +kernel) rfl rfl
theorem zr_91_20 : zSnd 91 20 (o_getf 6 0 23) := zS_getf (idx := 22) (by decide +kernel) rfl (by decide) rfl (by decide) rfl zin_6 zq_177
theorem zr_91_23 : zSnd 91 23 (o_ifle 30 26) := zS_ifle (by decide +kernel : decode (zmB 91) 23 = .ok (.ifCond .le 7, 3)) rfl (by decide)
theorem zr_91_26 : zSnd 91 26 (o_const 0 27) := zS_iconst (by decide +kernel) rfl (by decide)
theorem zr_91_27 : zSnd 91 27 (o_goto 35) := zS_goto (by decide +kernel : decode (zmB 91) 27 = .ok (.goto 8, 3)) (by decide)
theorem zr_91_30 : zSnd 91 30 (o_aload 0 31) := zS_aload_n (i := 0) (by decide +kernel) rfl rfl
theorem zr_91_31 : zSnd 91 31 (o_iload 1 32) := zS_iload_n (i := 1) (by decide +kernel) rfl rfl
theorem zr_91_32 : zSnd 91 32 (o_callv 6 90 2 2 1 35) := zS_callV (n := 1) (idx := 157) (by decide +kernel) rfl rfl (by decide) rfl zq_293 zq_294 zq_295 (by decide +kernel) zMk_90 (by decide +kernel) (by decide +kernel) (by decide +kernel)
theorem zr_91_35 : zSnd 91 35 (o_iret) := zS_iret (by decide +kernel) (by decide +kernel)
theorem zT_91 (pc : Nat) : zSnd 91 pc (zc_91 pc) := by
  unfold zc_91
  exact (zSn_nd (zSn_nd (zSn_nd (zSn_nd (zSn_lf zr_91_0) (zSn_lf zr_91_1)) (zSn_nd (zSn_lf zr_91_2) (zSn_lf zr_91_3))) (zSn_nd (zSn_nd (zSn_lf zr_91_5) (zSn_lf zr_91_8)) (zSn_nd (zSn_lf zr_91_11) (zSn_nd (zSn_lf zr_91_12) (zSn_lf zr_91_15))))) (zSn_nd (zSn_nd (zSn_nd (zSn_lf zr_91_16) (zSn_lf zr_91_19)) (zSn_nd (zSn_lf zr_91_20) (zSn_nd (zSn_lf zr_91_23) (zSn_lf zr_91_26)))) (zSn_nd (zSn_nd (zSn_lf zr_91_27) (zSn_lf zr_91_30)) (zSn_nd (zSn_lf zr_91_31) (zSn_nd (zSn_lf zr_91_32) (zSn_lf zr_91_35))))))
theorem zr_92_0 : zSnd 92 0 (o_aload 0 1) := zS_aload_n (i := 0) (by decide +kernel) rfl rfl
theorem zr_92_1 : zSnd 92 1 (o_callv 6 73 1 1 1 4) := zS_callV (n := 0) (idx := 121) (by decide +kernel) rfl rfl (by decide) rfl zq_261 zq_262 zq_263 (by decide +kernel) zMk_73 (by decide +kernel) (by decide +kernel) (by decide +kernel)
theorem zr_92_4 : zSnd 92 4 (o_ifeq 11 7) := zS_ifeq (by decide +kernel : decode (zmB 92) 4 = .ok (.ifCond .eq 7, 3)) rfl (by decide)
theorem zr_92_7 : zSnd 92 7 (o_const 0 8) := zS_iconst (by decide +kernel) rfl (by decide)
theorem zr_92_8 : zSnd 92 8 (o_goto 12) := zS_goto (by decide +kernel : decode (zmB 92) 8 = .ok (.goto 4, 3)) (by decide)
theorem zr_92_11 : zSnd 92 11 (o_const (-1) 12) := zS_iconst (by decide +kernel) rfl (by decide)
theorem zr_92_12 : zSnd 92 12 (o_istore 1 13) := zS_istore_n (i := 1) (by decide +kernel) rfl rfl (by decide +kernel)
theorem zr_92_13 : zSnd 92 13 (o_const 0 14) := zS_iconst (by decide +kernel) rfl (by decide)
theorem zr_92_14 : zSnd 92 14 (o_istore 2 15) := zS_istore_n (i := 2) (by decide +kernel) rfl rfl (by decide +kernel)
theorem zr_92_15 : zSnd 92 15 (o_iload 2 16) := zS_iload_n (i := 2) (by decide +kernel) rfl rfl
theorem zr_92_16 : zSnd 92 16 (o_aload 0 17) := zS_aload_n (i := 0) (by decide +kernel) rfl rfl
theorem zr_92_17 : zSnd 92 17 (o_getf 6 1 20) := zS_getf (idx := 7) (by decide +kernel) rfl (by decide) rfl (by decide) rfl zin_6 zq_180
theorem zr_92_20 : zSnd 92 20 (o_const 1 21) := zS_iconst (by decide +kernel) rfl (by decide)
theorem zr_92_21 : zSnd 92 21 (o_iald 22) := zS_iald (by decide +kernel) rfl
theorem zr_92_22 : zSnd 92 22 (o_cge 112 25) := zS_cge (by decide +kernel : decode (zmB 92) 22 = .ok (.if_icmp .ge 90, 3)) rfl (by decide)
theorem zr_92_25 : zSnd 92 25 (o_aload 0 26) := zS_aload_n (i := 0) (by decide +kernel) rfl rfl
theorem zr_92_26 : zSnd 92 26 (o_callv 6 73 1 1 1 29) := zS_callV (n := 0) (idx := 121) (by decide +kernel) rfl rfl (by decide) rfl zq_261 zq_262 zq_263 (by decide +kernel) zMk_73 (by decide +kernel) (by decide +kernel) (by decide +kernel)
theorem zr_92_29 : zSnd 92 29 (o_ifeq 112 32) := zS_ifeq (by decide +kernel : decode (zmB 92) 29 = .ok (.ifCond .eq 83, 3)) rfl (by decide)
theorem zr_92_32 : zSnd 92 32 (o_const 0 33) := zS_iconst (by decide +kernel) rfl (by decide)
theorem zr_92_33 : zSnd 92 33 (o_istore 3 34) := zS_istore_n (i := 3) (by decide +kernel) rfl rfl (by decide +kernel)
theorem zr_92_34 : zSnd 92 34 (o_iload 3 35) := zS_iload_n (i := 3) (by decide +kernel) rfl rfl
theorem zr_92_35 : zSnd 92 35 (o_aload 0 36) := zS_aload_n (i := 0) (by decide +kernel) rfl rfl
theorem zr_92_36 : zSnd 92 36 (o_iload 2 37) := zS_iload_n (i := 2) (by decide +kernel) rfl rfl
theorem zr_92_37 : zSnd 92 37 (o_const 2 38) := zS_iconst (by decide +kernel) rfl (by decide)
theorem zr_92_38 : zSnd 92 38 (o_callv 6 42 3 3 1 41) := zS_callV (n := 2) (idx := 45) (by decide +kernel) rfl rfl (by decide) rfl zq_190 zq_191 zq_192 (by decide +kernel) zMk_42 (by decide +kernel) (by decide +kernel) (by decide +kernel)
theorem zr_92_41 : zSnd 92 41 (o_cge 106 44) := zS_cge (by decide +kernel : decode (zmB 92) 41 = .ok (.if_icmp .ge 65, 3)) rfl (by decide)
theorem zr_92_44 : zSnd 92 44 (o_aload 0 45) := zS_aload_n (i := 0) (by decide +kernel) rfl rfl
theorem zr_92_45 : zSnd 92 45 (o_iload 2 46) := zS_iload_n (i := 2) (by decide +kernel) rfl rfl
theorem zr_92_46 : zSnd 92 46 (o_iload 3 47) := zS_iload_n (i := 3) (by decide +kernel) rfl rfl
theorem zr_92_47 : zSnd 92 47 (o_const 2 48) := zS_iconst (by decide +kernel) rfl (by decide)
theorem zr_92_48 : zSnd 92 48 (o_callv 6 44 4 4 1 51) := zS_callV (n := 3) (idx := 73) (by decide +kernel) rfl rfl (by decide) rfl zq_217 zq_218 zq_219 (by decide +kernel) zMk_44 (by decide +kernel) (by decide +kernel) (by decide +kernel)
theorem zr_92_51 : zSnd 92 51 (o_aload 0 52) := zS_aload_n (i := 0) (by decide +kernel) rfl rfl
theorem zr_92_52 : zSnd 92 52 (o_iload 2 53) := zS_iload_n (i := 2) (by decide +kernel) rfl rfl
theorem zr_92_53 : zSnd 92 53 (o_iload 3 54) := zS_iload_n (i := 3) (by decide +kernel) rfl rfl
theorem zr_92_54 : zSnd 92 54 (o_const 3 55) := zS_iconst (by decide +kernel) rfl (by decide)
theorem zr_92_55 : zSnd 92 55 (o_callv 6 44 4 4 1 58) := zS_callV (n := 3) (idx := 73) (by decide +kernel) rfl rfl (by decide) rfl zq_217 zq_218 zq_219 (by decide +kernel) zMk_44 (by decide +kernel) (by decide +kernel) (by decide +kernel)
theorem zr_92_58 : zSnd 92 58 (o_ceq 65 61) := zS_ceq (by decide +kernel : decode (zmB 92) 58 = .ok (.if_icmp .eq 7, 3)) rfl (by decide)
theorem zr_92_61 : zSnd 92 61 (o_const 1 62) := zS_iconst (by decide +kernel) rfl (by decide)
theorem zr_92_62 : zSnd 92 62 (o_goto 66) := zS_goto (by decide +kernel : decode (zmB 92) 62 = .ok (.goto 4, 3)) (by decide)
theorem zr_92_65 : zSnd 92 65 (o_const 0 66) := zS_iconst (by decide +kernel) rfl (by decide)
theorem zr_92_66 : zSnd 92 66 (o_istore 4 68) := zS_istore (by decide +kernel) rfl (by decide +kernel)
theorem zr_92_68 : zSnd 92 68 (o_iload 4 70) := zS_iload (by decide +kernel) rfl
theorem zr_92_70 : zSnd 92 70 (o_ifeq 98 73) := zS_ifeq (by decide +kernel : decode (zmB 92) 70 = .ok (.ifCond .eq 28, 3)) rfl (by decide)
theorem zr_92_73 : zSnd 92 73 (o_aload 0 74) := zS_aload_n (i := 0) (by decide +kernel) rfl rfl
theorem zr_92_74 : zSnd 92 74 (o_iload 2 75) := zS_iload_n (i := 2) (by decide +kernel) rfl rfl
theorem zr_92_75 : zSnd 92 75 (o_iload 3 76) := zS_iload_n (i := 3) (by decide +kernel) rfl rfl
theorem zr_92_76 : zSnd 92 76 (o_const 2 77) := zS_iconst (by decide +kernel) rfl (by decide)
theorem zr_92_77 : zSnd 92 77 (o_callv 6 44 4 4 1 80) := zS_callV (n := 3) (idx := 73) (by decide +kernel) rfl rfl (by decide) rfl zq_217 zq_218 zq_219 (by decide +kernel) zMk_44 (by decide +kernel) (by decide +kernel) (by decide +kernel)
theorem zr_92_80 : zSnd 92 80 (o_const 1 81) := zS_iconst (by decide +kernel) rfl (by decide)
theorem zr_92_81 : zSnd 92 81 (o_iadd 82) := zS_iadd (by decide +kernel) rfl
theorem zr_92_82 : zSnd 92 82 (o_iload 1 83) := zS_iload_n (i := 1) (by decide +kernel) rfl rfl
theorem zr_92_83 : zSnd 92 83 (o_cle 98 86) := zS_cle (by decide +kernel : decode (zmB 92) 83 = .ok (.if_icmp .le 15, 3)) rfl (by decide)
theorem zr_92_86 : zSnd 92 86 (o_aload 0 87) := zS_aload_n (i := 0) (by decide +kernel) rfl rfl
theorem zr_92_87 : zSnd 92 87 (o_iload 2 88) := zS_iload_n (i := 2) (by decide +kernel) rfl rfl
theorem zr_92_88 : zSnd 92 88 (o_iload 3 89) := zS_iload_n (i := 3) (by decide +kernel) rfl rfl
theorem zr_92_89 : zSnd 92 89 (o_const 2 90) := zS_iconst (by decide +kernel) rfl (by decide)
theorem zr_92_90 : zSnd 92 90 (o_callv 6 44 4 4 1 93) := zS_callV (n := 3) (idx := 73) (by decide +kernel) rfl rfl (by decide) rfl zq_217 zq_218 zq_219 (by decide +kernel) zMk_44 (by decide +kernel) (by decide +kernel) (by decide +kernel)
theorem zr_92_93 : zSnd 92 93 (o_const 1 94) := zS_iconst (by decide +kernel) rfl (by decide)
theorem zr_92_94 : zSnd 92 94 (o_iadd 95) := zS_iadd (by decide +kernel) rfl
theorem zr_92_95 : zSnd 92 95 (o_goto 99) := zS_goto (by decide +kernel : decode (zmB 92) 95 = .ok (.goto 4, 3)) (by decide)
theorem zr_92_98 : zSnd 92 98 (o_iload 1 99) := zS_iload_n (i := 1) (by decide +kernel) rfl rfl
theorem zr_92_99 : zSnd 92 99 (o_istore 1 100) := zS_istore_n (i := 1) (by decide +kernel) rfl rfl (by decide +kernel)
theorem zr_92_100 : zSnd 92 100 (o_iinc 3 1 103) := zS_iinc (by decide +kernel) rfl (by decide +kernel)
theorem zr_92_103 : zSnd 92 103 (o_goto 34) := zS_goto (by decide +kernel : decode (zmB 92) 103 = .ok (.goto (-69), 3)) (by decide)
theorem zr_92_106 : zSnd 92 106 (o_iinc 2 1 109) := zS_iinc (by decide +kernel) rfl (by decide +kernel)
theorem zr_92_109 : zSnd 92 109 (o_goto 15) := zS_goto (by decide +kernel : decode (zmB 92) 109 = .ok (.goto (-94), 3)) (by decide)
theorem zr_92_112 : zSnd 92 112 (o_iload 1 113) := zS_iload_n (i := 1) (by decide +kernel) rfl rfl
theorem zr_92_113 : zSnd 92 113 (o_iret) := zS_iret (by decide +kernel) (by decide +kernel)
theorem zT_92 (pc : Nat) : zSnd 92 pc (zc_92 pc) := by
  unfold zc_92
  exact (zSn_nd (zSn_nd (zSn_nd (zSn_nd (zSn_nd (zSn_nd (zSn_lf zr_92_0) (zSn_lf zr_92_1)) (zSn_nd (zSn_lf zr_92_4) (zSn_lf zr_92_7))) (zSn_nd (zSn_nd (zSn_lf zr_92_8) (zSn_lf zr_92_11)) (zSn_nd (zSn_lf zr_92_12) (zSn_lf zr_92_13)))) (zSn_nd (zSn_nd (zSn_nd (zSn_lf zr_92_14) (zSn_lf zr_92_15)) (zSn_nd (zSn_lf zr_92_16) (zSn_lf zr_92_17))) (zSn_nd (zSn_nd (zSn_lf zr_92_20) (zSn_lf zr_92_21)) (zSn_nd (zSn_lf zr_92_22) (zSn_nd (zSn_lf zr_92_25) (zSn_lf zr_92_26)))))) (zSn_nd (zSn_nd (zSn_nd (zSn_nd (zSn_lf zr_92_29) (zSn_lf zr_92_32)) (zSn_nd (zSn_lf zr_92_33) (zSn_lf zr_92_34))) (zSn_nd (zSn_nd (zSn_lf zr_92_35) (zSn_lf zr_92_36)) (zSn_nd (zSn_lf zr_92_37) (zSn_lf zr_92_38)))) (zSn_nd (zSn_nd (zSn_nd (zSn_lf zr_92_41) (zSn_lf zr_92_44)) (zSn_nd (zSn_lf zr_92_45) (zSn_lf zr_92_46))) (zSn_nd (zSn_nd (zSn_lf zr_92_47) (zSn_lf zr_92_48)) (zSn_nd (zSn_lf zr_92_51) (zSn_nd (zSn_lf zr_92_52) (zSn_lf zr_92_53))))))) (zSn_nd (zSn_nd (zSn_nd (zSn_nd (zSn_nd (zSn_lf zr_92_54) (zSn_lf zr_92_55)) (zSn_nd (zSn_lf zr_92_58) (zSn_lf zr_92_61))) (zSn_nd (zSn_nd (zSn_lf zr_92_62) (zSn_lf zr_92_65)) (zSn_nd (zSn_lf zr_92_66) (zSn_lf zr_92_68)))) (zSn_nd (zSn_nd (zSn_nd (zSn_lf zr_92_70) (zSn_lf zr_92_73)) (zSn_nd (zSn_lf zr_92_74) (zSn_lf zr_92_75))) (zSn_nd (zSn_nd (zSn_lf zr_92_76) (zSn_lf zr_92_77)) (zSn_nd (zSn_lf zr_92_80) (zSn_nd (zSn_lf zr_92_81) (zSn_lf zr_92_82)))))) (zSn_nd (zSn_nd (zSn_nd (zSn_nd (zSn_lf zr_92_83) (zSn_lf zr_92_86)) (zSn_nd (zSn_lf zr_92_87) (zSn_lf zr_92_88))) (zSn_nd (zSn_nd (zSn_lf zr_92_89) (zSn_lf zr_92_90)) (zSn_nd (zSn_lf zr_92_93) (zSn_lf zr_92_94)))) (zSn_nd (zSn_nd (zSn_nd (zSn_lf zr_92_95) (zSn_lf zr_92_98)) (zSn_nd (zSn_lf zr_92_99) (zSn_lf zr_92_100))) (zSn_nd (zSn_nd (zSn_lf zr_92_103) (zSn_lf zr_92_106)) (zSn_nd (zSn_lf zr_92_109) (zSn_nd (zSn_lf zr_92_112) (zSn_lf zr_92_113))))))))
theorem zr_93_0 : zSnd 93 0 (o_aload 0 1) := zS_aload_n (i := 0) (by decide +kernel) rfl rfl
theorem zr_93_1 : zSnd 93 1 (o_const 0 2) := zS_iconst (by decide +kernel) rfl (by decide)
theorem zr_93_2 : zSnd 93 2 (o_putf 6 0 5) := zS_putf (idx := 22) (by decide +kernel) rfl (by decide) rfl (by decide) rfl zin_6 tyX5_ok nmX5 rfl (by decide +kernel) zq_177
theorem zr_93_5 : zSnd 93 5 (o_aload 0 6) := zS_aload_n (i := 0) (by decide +kernel) rfl rfl
theorem zr_93_6 : zSnd 93 6 (o_callv 6 92 1 5 1 9) := zS_callV (n := 0) (idx := 160) (by decide +kernel) rfl rfl (by decide) rfl zq_296 zq_297 zq_298 (by decide +kernel) zMk_92 (by decide +kernel) (by decide +kernel) (by decide +kernel)
theorem zr_93_9 : zSnd 93 9 (o_iret) := zS_iret (by decide +kernel) (by decide +kernel)
theorem zT_93 (pc : Nat) : zSnd 93 pc (zc_93 pc) := by
  unfold zc_93
  exact (zSn_nd (zSn_nd (zSn_lf zr_93_0) (zSn_nd (zSn_lf zr_93_1) (zSn_lf zr_93_2))) (zSn_nd (zSn_lf zr_93_5) (zSn_nd (zSn_lf zr_93_6) (zSn_lf zr_93_9))))
theorem zr_94_0 : zSnd 94 0 (o_const 0 1) := zS_iconst (by decide +kernel) rfl (by decide)
theorem zr_94_1 : zSnd 94 1 (o_istore 3 2) := zS_istore_n (i := 3) (by decide +kernel) rfl rfl (by decide +kernel)
theorem zr_94_2 : zSnd 94 2 (o_const 0 3) := zS_iconst (by decide +kernel) rfl (by decide)
theorem zr_94_3 : zSnd 94 3 (o_istore 4 5) := zS_istore (by decide +kernel) rfl (by decide +kernel)
theorem zr_94_5 : zSnd 94 5 (o_iload 4 7) := zS_iload (by decide +kernel) rfl
theorem zr_94_7 : zSnd 94 7 (o_aload 0 8) := zS_aload_n (i := 0) (by decide +kernel) rfl rfl
theorem zr_94_8 : zSnd 94 8 (o_getf 6 1 11) := zS_getf (idx := 7) (by decide +kernel) rfl (by decide) rfl (by decide) rfl zin_6 zq_180
theorem zr_94_11 : zSnd 94 11 (o_const 1 12) := zS_iconst (by decide +kernel) rfl (by decide)
theorem zr_94_12 : zSnd 94 12 (o_iald 13) := zS_iald (by decide +kernel) rfl
theorem zr_94_13 : zSnd 94 13 (o_cge 89 16) := zS_cge (by decide +kernel : decode (zmB 94) 13 = .ok (.if_icmp .ge 76, 3)) rfl (by decide)
theorem zr_94_16 : zSnd 94 16 (o_const 0 17) := zS_iconst (by decide +kernel) rfl (by decide)
theorem zr_94_17 : zSnd 94 17 (o_istore 5 19) := zS_istore (by decide +kernel) rfl (by decide +kernel)
theorem zr_94_19 : zSnd 94 19 (o_iload 5 21) := zS_iload (by decide +kernel) rfl
theorem zr_94_21 : zSnd 94 21 (o_aload 0 22) := zS_aload_n (i := 0) (by decide +kernel) rfl rfl
theorem zr_94_22 : zSnd 94 22 (o_iload 4 24) := zS_iload (by decide +kernel) rfl
theorem zr_94_24 : zSnd 94 24 (o_const 2 25) := zS_iconst (by decide +kernel) rfl (by decide)
theorem zr_94_25 : zSnd 94 25 (o_callv 6 42 3 3 1 28) := zS_callV (n := 2) (idx := 45) (by decide +kernel) rfl rfl (by decide) rfl zq_190 zq_191 zq_192 (by decide +kernel) zMk_42 (by decide +kernel) (by decide +kernel) (by decide +kernel)
theorem zr_94_28 : zSnd 94 28 (o_cge 83 31) := zS_cge (by decide +kernel : decode (zmB 94) 28 = .ok (.if_icmp .ge 55, 3)) rfl (by decide)
theorem zr_94_31 : zSnd 94 31 (o_iload 3 32) := zS_iload_n (i := 3) (by decide +kernel) rfl rfl
theorem zr_94_32 : zSnd 94 32 (o_aload 0 33) := zS_aload_n (i := 0) (by decide +kernel) rfl rfl
theorem zr_94_33 : zSnd 94 33 (o_iload 4 35) := zS_iload (by decide +kernel) rfl
theorem zr_94_35 : zSnd 94 35 (o_iload 5 37) := zS_iload (by decide +kernel) rfl
theorem zr_94_37 : zSnd 94 37 (o_const 0 38) := zS_iconst (by decide +kernel) rfl (by decide)
theorem zr_94_38 : zSnd 94 38 (o_callv 6 44 4 4 1 41) := zS_callV (n := 3) (idx := 73) (by decide +kernel) rfl rfl (by decide) rfl zq_217 zq_218 zq_219 (by decide +kernel) zMk_44 (by decide +kernel) (by decide +kernel) (by decide +kernel)
theorem zr_94_41 : zSnd 94 41 (o_aload 0 42) := zS_aload_n (i := 0) (by decide +kernel) rfl rfl
theorem zr_94_42 : zSnd 94 42 (o_iload 1 43) := zS_iload_n (i := 1) (by decide +kernel) rfl rfl
theorem zr_94_43 : zSnd 94 43 (o_iload 2 44) := zS_iload_n (i := 2) (by decide +kernel) rfl rfl
theorem zr_94_44 : zSnd 94 44 (o_const 0 45) := zS_iconst (by decide +kernel) rfl (by decide)
theorem zr_94_45 : zSnd 94 45 (o_callv 6 44 4 4 1 48) := zS_callV (n := 3) (idx := 73) (by decide +kernel) rfl rfl (by decide) rfl zq_217 zq_218 zq_219 (by decide +kernel) zMk_44 (by decide +kernel) (by decide +kernel) (by decide +kernel)
theorem zr_94_48 : zSnd 94 48 (o_cne 74 51) := zS_cne (by decide +kernel : decode (zmB 94) 48 = .ok (.if_icmp .ne 26, 3)) rfl (by decide)
theorem zr_94_51 : zSnd 94 51 (o_aload 0 52) := zS_aload_n (i := 0) (by decide +kernel) rfl rfl
theorem zr_94_52 : zSnd 94 52 (o_iload 4 54) := zS_iload (by decide +kernel) rfl
theorem zr_94_54 : zSnd 94 54 (o_iload 5 56) := zS_iload (by decide +kernel) rfl
theorem zr_94_56 : zSnd 94 56 (o_const 3 57) := zS_iconst (by decide +kernel) rfl (by decide)
theorem zr_94_57 : zSnd 94 57 (o_callv 6 44 4 4 1 60) := zS_callV (n := 3) (idx := 73) (by decide +kernel) rfl rfl (by decide) rfl zq_217 zq_218 zq_219 (by decide +kernel) zMk_44 (by decide +kernel) (by decide +kernel) (by decide +kernel)
theorem zr_94_60 : zSnd 94 60 (o_aload 0 61) := zS_aload_n (i := 0) (by decide +kernel) rfl rfl
theorem zr_94_61 : zSnd 94 61 (o_iload 1 62) := zS_iload_n (i := 1) (by decide +kernel) rfl rfl
theorem zr_94_62 : zSnd 94 62 (o_iload 2 63) := zS_iload_n (i := 2) (by decide +kernel) rfl rfl
theorem zr_94_63 : zSnd 94 63 (o_const 3 64) := zS_iconst (by decide +kernel) rfl (by decide)
theorem zr_94_64 : zSnd 94 64 (o_callv 6 44 4 4 1 67) := zS_callV (n := 3) (idx := 73) (by decide +kernel) rfl rfl (by decide) rfl zq_217 zq_218 zq_219 (by decide +kernel) zMk_44 (by decide +kernel) (by decide +kernel) (by decide +kernel)
theorem zr_94_67 : zSnd 94 67 (o_cge 74 70) := zS_cge (by decide +kernel : decode (zmB 94) 67 = .ok (.if_icmp .ge 7, 3)) rfl (by decide)
theorem zr_94_70 : zSnd 94 70 (o_const 1 71) := zS_iconst (by decide +kernel) rfl (by decide)
theorem zr_94_71 : zSnd 94 71 (o_goto 75) := zS_goto (by decide +kernel : decode (zmB 94) 71 = .ok (.goto 4, 3)) (by decide)
theorem zr_94_74 : zSnd 94 74 (o_const 0 75) := zS_iconst (by decide +kernel) rfl (by decide)
theorem zr_94_75 : zSnd 94 75 (o_iadd 76) := zS_iadd (by decide +kernel) rfl
theorem zr_94_76 : zSnd 94 76 (o_istore 3 77) := zS_istore_n (i := 3) (by decide +kernel) rfl rfl (by decide +kernel)
theorem zr_94_77 : zSnd 94 77 (o_iinc 5 1 80) := zS_iinc (by decide +kernel) rfl (by decide +kernel)
theorem zr_94_80 : zSnd 94 80 (o_goto 19) := zS_goto (by decide +kernel : decode (zmB 94) 80 = .ok (.goto (-61), 3)) (by decide)
theorem zr_94_83 : zSnd 94 83 (o_iinc 4 1 86) := zS_iinc (by decide +kernel) rfl (by decide +kernel)
theorem zr_94_86 : zSnd 94 86 (o_goto 5) := zS_goto (by decide +kernel : decode (zmB 94) 86 = .ok (.goto (-81), 3)) (by decide)
theorem zr_94_89 : zSnd 94 89 (o_iload 3 90) := zS_iload_n (i := 3) (by decide +kernel) rfl rfl
theorem zr_94_90 : zSnd 94 90 (o_iret) := zS_iret (by decide +kernel) (by decide +kernel)
theorem zT_94 (pc : Nat) : zSnd 94 pc (zc_94 pc) := by
  unfold zc_94
  exact (zSn_nd (zSn_nd (zSn_nd (zSn_nd (zSn_nd (zSn_lf zr_94_0) (zSn_nd (zSn_lf zr_94_1) (zSn_lf zr_94_2))) (zSn_nd (zSn_lf zr_94_3) (zSn_nd (zSn_lf zr_94_5) (zSn_lf zr_94_7)))) (zSn_nd (zSn_nd (zSn_lf zr_94_8) (zSn_nd (zSn_lf zr_94_11) (zSn_lf zr_94_12))) (zSn_nd (zSn_nd (zSn_lf zr_94_13) (zSn_lf zr_94_16)) (zSn_nd (zSn_lf zr_94_17) (zSn_lf zr_94_19))))) (zSn_nd (zSn_nd (zSn_nd (zSn_lf zr_94_21) (zSn_nd (zSn_lf zr_94_22) (zSn_lf zr_94_24))) (zSn_nd (zSn_lf zr_94_25) (zSn_nd (zSn_lf zr_94_28) (zSn_lf zr_94_31)))) (zSn_nd (zSn_nd (zSn_lf zr_94_32) (zSn_nd (zSn_lf zr_94_33) (zSn_lf zr_94_35))) (zSn_nd (zSn_nd (zSn_lf zr_94_37) (zSn_lf zr_94_38)) (zSn_nd (zSn_lf zr_94_41) (zSn_lf zr_94_42)))))) (zSn_nd (zSn_nd (zSn_nd (zSn_nd (zSn_lf zr_94_43) (zSn_nd (zSn_lf zr_94_44) (zSn_lf zr_94_45))) (zSn_nd (zSn_lf zr_94_48) (zSn_nd (zSn_lf zr_94_51) (zSn_lf zr_94_52)))) (zSn_nd (zSn_nd (zSn_lf zr_94_54) (zSn_nd (zSn_lf zr_94_56) (zSn_lf zr_94_57))) (zSn_nd (zSn_nd (zSn_lf zr_94_60) (zSn_lf zr_94_61)) (zSn_nd (zSn_lf zr_94_62) (zSn_lf zr_94_63))))) (zSn_nd (zSn_nd (zSn_nd (zSn_lf zr_94_64) (zSn_nd (zSn_lf zr_94_67) (zSn_lf zr_94_70))) (zSn_nd (zSn_lf zr_94_71) (zSn_nd (zSn_lf zr_94_74) (zSn_lf zr_94_75)))) (zSn_nd (zSn_nd (zSn_lf zr_94_76) (zSn_nd (zSn_lf zr_94_77) (zSn_lf zr_94_80))) (zSn_nd (zSn_nd (zSn_lf zr_94_83) (zSn_lf zr_94_86)) (zSn_nd (zSn_lf zr_94_89) (zSn_lf zr_94_90)))))))
theorem zr_95_0 : zSnd 95 0 (o_aload 0 1) := zS_aload_n (i := 0) (by decide +kernel) rfl rfl
theorem zr_95_1 : zSnd 95 1 (o_aload 0 2) := zS_aload_n (i := 0) (by decide +kernel) rfl rfl
theorem zr_95_2 : zSnd 95 2 (o_iload 1 3) := zS_iload_n (i := 1) (by decide +kernel) rfl rfl
theorem zr_95_3 : zSnd 95 3 (o_callv 6 40 2 2 1 6) := zS_callV (n := 1) (idx := 57) (by decide +kernel) rfl rfl (by decide) rfl zq_202 zq_203 zq_204 (by decide +kernel) zMk_40 (by decide +kernel) (by decide +kernel) (by decide +kernel)
theorem zr_95_6 : zSnd 95 6 (o_ifeq 17 9) := zS_ifeq (by decide +kernel : decode (zmB 95) 6 = .ok (.ifCond .eq 11, 3)) rfl (by decide)
theorem zr_95_9 : zSnd 95 9 (o_iload 2 10) := zS_iload_n (i := 2) (by decide +kernel) rfl rfl
theorem zr_95_10 : zSnd 95 10 (o_iflt 17 13) := zS_iflt (by decide +kernel : decode (zmB 95) 10 = .ok (.ifCond .lt 7, 3)) rfl (by decide)
theorem zr_95_13 : zSnd 95 13 (o_const 0 14) := zS_iconst (by decide +kernel) rfl (by decide)
theorem zr_95_14 : zSnd 95 14 (o_goto 18) := zS_goto (by decide +kernel : decode (zmB 95) 14 = .ok (.goto 4, 3)) (by decide)
theorem zr_95_17 : zSnd 95 17 (o_const 1 18) := zS_iconst (by decide +kernel) rfl (by decide)
theorem zr_95_18 : zSnd 95 18 (o_putf 6 0 21) := zS_putf (idx := 22) (by decide +kernel) rfl (by decide) rfl (by decide) rfl zin_6 tyX5_ok nmX5 rfl (by decide +kernel) zq_177
theorem zr_95_21 : zSnd 95 21 (o_aload 0 22) := zS_aload_n (i := 0) (by decide +kernel) rfl rfl
theorem zr_95_22 : zSnd 95 22 (o_getf 6 0 25) := zS_getf (idx := 22) (by decide +kernel) rfl (by decide) rfl (by decide) rfl zin_6 zq_177
theorem zr_95_25 : zSnd 95 25 (o_ifle 30 28) := zS_ifle (by decide +kernel : decode (zmB 95) 25 = .ok (.ifCond .le 5, 3)) rfl (by decide)
theorem zr_95_28 : zSnd 95 28 (o_const 0 29) := zS_iconst (by decide +kernel) rfl (by decide)
theorem zr_95_29 : zSnd 95 29 (o_iret) := zS_iret (by decide +kernel) (by decide +kernel)
theorem zr_95_30 : zSnd 95 30 (o_const (-1) 31) := zS_iconst (by decide +kernel) rfl (by decide)
theorem zr_95_31 : zSnd 95 31 (o_istore 3 32) := zS_istore_n (i := 3) (by decide +kernel) rfl rfl (by decide +kernel)
theorem zr_95_32 : zSnd 95 32 (o_const 0 33) := zS_iconst (by decide +kernel) rfl (by decide)
theorem zr_95_33 : zSnd 95 33 (o_istore 4 35) := zS_istore (by decide +kernel) rfl (by decide +kernel)
theorem zr_95_35 : zSnd 95 35 (o_iload 4 37) := zS_iload (by decide +kernel) rfl
theorem zr_95_37 : zSnd 95 37 (o_aload 0 38) := zS_aload_n (i := 0) (by decide +kernel) rfl rfl
theorem zr_95_38 : zSnd 95 38 (o_getf 6 1 41) := zS_getf (idx := 7) (by decide +kernel) rfl (by decide) rfl (by decide) rfl zin_6 zq_180
theorem zr_95_41 : zSnd 95 41 (o_const 1 42) := zS_iconst (by decide +kernel) rfl (by decide)
theorem zr_95_42 : zSnd 95 42 (o_iald 43) := zS_iald (by decide +kernel) rfl
theorem zr_95_43 : zSnd 95 43 (o_cge 118 46) := zS_cge (by decide +kernel : decode (zmB 95) 43 = .ok (.if_icmp .ge 75, 3)) rfl (by decide)
theorem zr_95_46 : zSnd 95 46 (o_aload 0 47) := zS_aload_n (i := 0) (by decide +kernel) rfl rfl
theorem zr_95_47 : zSnd 95 47 (o_callv 6 73 1 1 1 50) := zS_callV (n := 0) (idx := 121) (by decide +kernel) rfl rfl (by decide) rfl zq_261 zq_262 zq_263 (by decide +kernel) zMk_73 (by decide +kernel) (by decide +kernel) (by decide +kernel)
theorem zr_95_50 : zSnd 95 50 (o_ifeq 118 53) := zS_ifeq (by decide +kernel : decode (zmB 95) 50 = .ok (.ifCond .eq 68, 3)) rfl (by decide)
theorem zr_95_53 : zSnd 95 53 (o_const 0 54) := zS_iconst (by decide +kernel) rfl (by decide)
theorem zr_95_54 : zSnd 95 54 (o_istore 5 56) := zS_istore (by decide +kernel) rfl (by decide +kernel)
theorem zr_95_56 : zSnd 95 56 (o_iload 5 58) := zS_iload (by decide +kernel) rfl
theorem zr_95_58 : zSnd 95 58 (o_aload 0 59) := zS_aload_n (i := 0) (by decide +kernel) rfl rfl
theorem zr_95_59 : zSnd 95 59 (o_iload 4 61) := zS_iload (by decide +kernel) rfl
theorem zr_95_61 : zSnd 95 61 (o_const 2 62) := zS_iconst (by decide +kernel) rfl (by decide)
theorem zr_95_62 : zSnd 95 62 (o_callv 6 42 3 3 1 65) := zS_callV (n := 2) (idx := 45) (by decide +kernel) rfl rfl (by decide) rfl zq_190 zq_191 zq_192 (by decide +kernel) zMk_42 (by decide +kernel) (by decide +kernel) (by decide +kernel)
theorem zr_95_65 : zSnd 95 65 (o_cge 112 68) := zS_cge (by decide +kernel : decode (zmB 95) 65 = .ok (.if_icmp .ge 47, 3)) rfl (by decide)
theorem zr_95_68 : zSnd 95 68 (o_aload 0 69) := zS_aload_n (i := 0) (by decide +kernel) rfl rfl
theorem zr_95_69 : zSnd 95 69 (o_iload 4 71) := zS_iload (by decide +kernel) rfl
theorem zr_95_71 : zSnd 95 71 (o_iload 5 73) := zS_iload (by decide +kernel) rfl
theorem zr_95_73 : zSnd 95 73 (o_const 0 74) := zS_iconst (by decide +kernel) rfl (by decide)
theorem zr_95_74 : zSnd 95 74 (o_callv 6 44 4 4 1 77) := zS_callV (n := 3) (idx := 73) (by decide +kernel) rfl rfl (by decide) rfl zq_217 zq_218 zq_219 (by decide +kernel) zMk_44 (by decide +kernel) (by decide +kernel) (by decide +kernel)
theorem zr_95_77 : zSnd 95 77 (o_iload 1 78) := zS_iload_n (i := 1) (by decide +kernel) rfl rfl
theorem zr_95_78 : zSnd 95 78 (o_cne 104 81) := zS_cne (by decide +kernel : decode (zmB 95) 78 = .ok (.if_icmp .ne 26, 3)) rfl (by decide)
theorem zr_95_81 : zSnd 95 81 (o_aload 0 82) := zS_aload_n (i := 0) (by decide +kernel) rfl rfl
theorem zr_95_82 : zSnd 95 82 (o_iload 4 84) := zS_iload (by decide +kernel) rfl
theorem zr_95_84 : zSnd 95 84 (o_iload 5 86) := zS_iload (by decide +kernel) rfl
theorem zr_95_86 : zSnd 95 86 (o_callv 6 94 3 6 1 89) := zS_callV (n := 2) (idx := 163) (by decide +kernel) rfl rfl (by decide) rfl zq_299 zq_300 zq_301 (by decide +kernel) zMk_94 (by decide +kernel) (by decide +kernel) (by decide +kernel)
theorem zr_95_89 : zSnd 95 89 (o_iload 2 90) := zS_iload_n (i := 2) (by decide +kernel) rfl rfl
theorem zr_95_90 : zSnd 95 90 (o_cne 104 93) := zS_cne (by decide +kernel : decode (zmB 95) 90 = .ok (.if_icmp .ne 14, 3)) rfl (by decide)
theorem zr_95_93 : zSnd 95 93 (o_const 10 95) := zS_bipush (by decide +kernel) rfl (by decide) (by decide)
theorem zr_95_95 : zSnd 95 95 (o_iload 4 97) := zS_iload (by decide +kernel) rfl
theorem zr_95_97 : zSnd 95 97 (o_imul 98) := zS_imul (by decide +kernel) rfl
theorem zr_95_98 : zSnd 95 98 (o_iload 5 100) := zS_iload (by decide +kernel) rfl
theorem zr_95_100 : zSnd 95 100 (o_iadd 101) := zS_iadd (by decide +kernel) rfl
theorem zr_95_101 : zSnd 95 101 (o_goto 105) := zS_goto (by decide +kernel : decode (zmB 95) 101 = .ok (.goto 4, 3)) (by decide)
theorem zr_95_104 : zSnd 95 104 (o_iload 3 105) := zS_iload_n (i := 3) (by decide +kernel) rfl rfl
theorem zr_95_105 : zSnd 95 105 (o_istore 3 106) := zS_istore_n (i := 3) (by decide +kernel) rfl rfl (by decide +kernel)
theorem zr_95_106 : zSnd 95 106 (o_iinc 5 1 109) := zS_iinc (by decide +kernel) rfl (by decide +kernel)
theorem zr_95_109 : zSnd 95 109 (o_goto 56) := zS_goto (by decide +kernel : decode (zmB 95) 109 = .ok (.goto (-53), 3)) (by decide)
theorem zr_95_112 : zSnd 95 112 (o_iinc 4 1 115) := zS_iinc (by decide +kernel) rfl (by decide +kernel)
theorem zr_95_115 : zSnd 95 115 (o_goto 35) := zS_goto (by decide +kernel : decode (zmB 95) 115 = .ok (.goto (-80), 3)) (by decide)
theorem zr_95_118 : zSnd 95 118 (o_iload 3 119) := zS_iload_n (i := 3) (by decide +kernel) rfl rfl
theorem zr_95_119 : zSnd 95 119 (o_iret) := zS_iret (by decide +kernel) (by decide +kernel)
theorem zT_95 (pc : Nat) : zSnd 95 pc (zc_95 pc) := by
  unfold zc_95
  exact (zSn_nd (zSn_nd (zSn_nd (zSn_nd (zSn_nd (zSn_nd (zSn_lf zr_95_0) (zSn_lf zr_95_1)) (zSn_nd (zSn_lf zr_95_2) (zSn_lf zr_95_3))) (zSn_nd (zSn_nd (zSn_lf zr_95_6) (zSn_lf zr_95_9)) (zSn_nd (zSn_lf zr_95_10) (zSn_lf zr_95_13)))) (zSn_nd (zSn_nd (zSn_nd (zSn_lf zr_95_14) (zSn_lf zr_95_17)) (zSn_nd (zSn_lf zr_95_18) (zSn_lf zr_95_21))) (zSn_nd (zSn_nd (zSn_lf zr_95_22) (zSn_lf zr_95_25)) (zSn_nd (zSn_lf zr_95_28) (zSn_lf zr_95_29))))) (zSn_nd (zSn_nd (zSn_nd (zSn_nd (zSn_lf zr_95_30) (zSn_lf zr_95_31)) (zSn_nd (zSn_lf zr_95_32) (zSn_lf zr_95_33))) (zSn_nd (zSn_nd (zSn_lf zr_95_35) (zSn_lf zr_95_37)) (zSn_nd (zSn_lf zr_95_38) (zSn_lf zr_95_41)))) (zSn_nd (zSn_nd (zSn_nd (zSn_lf zr_95_42) (zSn_lf zr_95_43)) (zSn_nd (zSn_lf zr_95_46) (zSn_lf zr_95_47))) (zSn_nd (zSn_nd (zSn_lf zr_95_50) (zSn_lf zr_95_53)) (zSn_nd (zSn_lf zr_95_54) (zSn_lf zr_95_56)))))) (zSn_nd (zSn_nd (zSn_nd (zSn_nd (zSn_nd (zSn_lf zr_95_58) (zSn_lf zr_95_59)) (zSn_nd (zSn_lf zr_95_61) (zSn_lf zr_95_62))) (zSn_nd (zSn_nd (zSn_lf zr_95_65) (zSn_lf zr_95_68)) (zSn_nd (zSn_lf zr_95_69) (zSn_lf zr_95_71)))) (zSn_nd (zSn_nd (zSn_nd (zSn_lf zr_95_73) (zSn_lf zr_95_74)) (zSn_nd (zSn_lf zr_95_77) (zSn_lf zr_95_78))) (zSn_nd (zSn_nd (zSn_lf zr_95_81) (zSn_lf zr_95_82)) (zSn_nd (zSn_lf zr_95_84) (zSn_lf zr_95_86))))) (zSn_nd (zSn_nd (zSn_nd (zSn_nd (zSn_lf zr_95_89) (zSn_lf zr_95_90)) (zSn_nd (zSn_lf zr_95_93) (zSn_lf zr_95_95))) (zSn_nd (zSn_nd (zSn_lf zr_95_97) (zSn_lf zr_95_98)) (zSn_nd (zSn_lf zr_95_100) (zSn_lf zr_95_101)))) (zSn_nd (zSn_nd (zSn_nd (zSn_lf zr_95_104) (zSn_lf zr_95_105)) (zSn_nd (zSn_lf zr_95_106) (zSn_lf zr_95_109))) (zSn_nd (zSn_nd (zSn_lf zr_95_112) (zSn_lf zr_95_115)) (zSn_nd (zSn_lf zr_95_118) (zSn_lf zr_95_119)))))))
theorem zr_96_0 : zSnd 96 0 (o_aload 0 1) := zS_aload_n (i := 0) (by decide +kernel) rfl rfl
theorem zr_96_1 : zSnd 96 1 (o_getf 6 1 4) := zS_getf (idx := 7) (by decide +kernel) rfl (by decide) rfl (by decide) rfl zin_6 zq_180
theorem zr_96_4 : zSnd 96 4 (o_const 0 5) := zS_iconst (by decide +kernel) rfl (by decide)
theorem zr_96_5 : zSnd 96 5 (o_aload 0 6) := zS_aload_n (i := 0) (by decide +kernel) rfl rfl
theorem zr_96_6 : zSnd 96 6 (o_getf 6 2 9) := zS_getf (idx := 13) (by decide +kernel) rfl (by decide) rfl (by decide) rfl zin_6 zq_302
theorem zr_96_9 : zSnd 96 9 (o_const 0 10) := zS_iconst (by decide +kernel) rfl (by decide)
theorem zr_96_10 : zSnd 96 10 (o_call 37 4 5 0 13) := zS_callS (idx := 29) (by decide +kernel) rfl zq_181 zq_182 (by decide +kernel) zMk_37 (by decide +kernel) (by decide +kernel) (by decide +kernel)
theorem zr_96_13 : zSnd 96 13 (o_aload 0 14) := zS_aload_n (i := 0) (by decide +kernel) rfl rfl
theorem zr_96_14 : zSnd 96 14 (o_iload 1 15) := zS_iload_n (i := 1) (by decide +kernel) rfl rfl
theorem zr_96_15 : zSnd 96 15 (o_callv 6 68 2 4 0 18) := zS_callV (n := 1) (idx := 111) (by decide +kernel) rfl rfl (by decide) rfl zq_252 zq_253 zq_254 (by decide +kernel) zMk_68 (by decide +kernel) (by decide +kernel) (by decide +kernel)
theorem zr_96_18 : zSnd 96 18 (o_aload 0 19) := zS_aload_n (i := 0) (by decide +kernel) rfl rfl
theorem zr_96_19 : zSnd 96 19 (o_const 3 20) := zS_iconst (by decide +kernel) rfl (by decide)
theorem zr_96_20 : zSnd 96 20 (o_callv 6 66 2 4 1 23) := zS_callV (n := 1) (idx := 115) (by decide +kernel) rfl rfl (by decide) rfl zq_255 zq_256 zq_257 (by decide +kernel) zMk_66 (by decide +kernel) (by decide +kernel) (by decide +kernel)
theorem zr_96_23 : zSnd 96 23 (o_istore 2 24) := zS_istore_n (i := 2) (by decide +kernel) rfl rfl (by decide +kernel)
theorem zr_96_24 : zSnd 96 24 (o_aload 0 25) := zS_aload_n (i := 0) (by decide +kernel) rfl rfl
theorem zr_96_25 : zSnd 96 25 (o_getf 6 2 28) := zS_getf (idx := 13) (by decide +kernel) rfl (by decide) rfl (by decide) rfl zin_6 zq_302
theorem zr_96_28 : zSnd 96 28 (o_const 0 29) := zS_iconst (by decide +kernel) rfl (by decide)
theorem zr_96_29 : zSnd 96 29 (o_aload 0 30) := zS_aload_n (i := 0) (by decide +kernel) rfl rfl
theorem zr_96_30 : zSnd 96 30 (o_getf 6 1 33) := zS_getf (idx := 7) (by decide +kernel) rfl (by decide) rfl (by decide) rfl zin_6 zq_180
theorem zr_96_33 : zSnd 96 33 (o_const 0 34) := zS_iconst (by decide +kernel) rfl (by decide)
theorem zr_96_34 : zSnd 96 34 (o_call 37 4 5 0 37) := zS_callS (idx := 29) (by decide +kernel) rfl zq_181 zq_182 (by decide +kernel) zMk_37 (by decide +kernel) (by decide +kernel) (by decide +kernel)
theorem zr_96_37 : zSnd 96 37 (o_iload 2 38) := zS_iload_n (i := 2) (by decide +kernel) rfl rfl
theorem zr_96_38 : zSnd 96 38 (o_iret) := zS_iret (by decide +kernel) (by decide +kernel)
theorem zT_96 (pc : Nat) : zSnd 96 pc (zc_96 pc) := by
  unfold zc_96
  exact (zSn_nd (zSn_nd (zSn_nd (zSn_nd (zSn_lf zr_96_0) (zSn_lf zr_96_1)) (zSn_nd (zSn_lf zr_96_4) (zSn_nd (zSn_lf zr_96_5) (zSn_lf zr_96_6)))) (zSn_nd (zSn_nd (zSn_lf zr_96_9) (zSn_nd (zSn_lf zr_96_10) (zSn_lf zr_96_13))) (zSn_nd (zSn_lf zr_96_14) (zSn_nd (zSn_lf zr_96_15) (zSn_lf zr_96_18))))) (zSn_nd (zSn_nd (zSn_nd (zSn_lf zr_96_19) (zSn_nd (zSn_lf zr_96_20) (zSn_lf zr_96_23))) (zSn_nd (zSn_lf zr_96_24) (zSn_nd (zSn_lf zr_96_25) (zSn_lf zr_96_28)))) (zSn_nd (zSn_nd (zSn_lf zr_96_29) (zSn_nd (zSn_lf zr_96_30) (zSn_lf zr_96_33))) (zSn_nd (zSn_lf zr_96_34) (zSn_nd (zSn_lf zr_96_37) (zSn_lf zr_96_38))))))
theorem zr_97_0 : zSnd 97 0 (o_aload 0 1) := zS_aload_n (i := 0) (by decide +kernel) rfl rfl
theorem zr_97_1 : zSnd 97 1 (o_iload 1 2) := zS_iload_n (i := 1) (by decide +kernel) rfl rfl
theorem zr_97_2 : zSnd 97 2 (o_call 69 1 1 1 5) := zS_callS (idx := 108) (by decide +kernel) rfl zq_250 zq_251 (by decide +kernel) zMk_69 (by decide +kernel) (by decide +kernel) (by decide +kernel)
theorem zr_97_5 : zSnd 97 5 (o_ifeq 12 8) := zS_ifeq (by decide +kernel : decode (zmB 97) 5 = .ok (.ifCond .eq 7, 3)) rfl (by decide)
theorem zr_97_8 : zSnd 97 8 (o_const 0 9) := zS_iconst (by decide +kernel) rfl (by decide)
theorem zr_97_9 : zSnd 97 9 (o_goto 13) := zS_goto (by decide +kernel : decode (zmB 97) 9 = .ok (.goto 4, 3)) (by decide)
theorem zr_97_12 : zSnd 97 12 (o_const 1 13) := zS_iconst (by decide +kernel) rfl (by decide)
theorem zr_97_13 : zSnd 97 13 (o_putf 6 0 16) := zS_putf (idx := 22) (by decide +kernel) rfl (by decide) rfl (by decide) rfl zin_6 tyX5_ok nmX5 rfl (by decide +kernel) zq_177
theorem zr_97_16 : zSnd 97 16 (o_aload 0 17) := zS_aload_n (i := 0) (by decide +kernel) rfl rfl
theorem zr_97_17 : zSnd 97 17 (o_getf 6 0 20) := zS_getf (idx := 22) (by decide +kernel) rfl (by decide) rfl (by decide) rfl zin_6 zq_177
theorem zr_97_20 : zSnd 97 20 (o_ifle 27 23) := zS_ifle (by decide +kernel : decode (zmB 97) 20 = .ok (.ifCond .le 7, 3)) rfl (by decide)
theorem zr_97_23 : zSnd 97 23 (o_const 0 24) := zS_iconst (by decide +kernel) rfl (by decide)
theorem zr_97_24 : zSnd 97 24 (o_goto 32) := zS_goto (by decide +kernel : decode (zmB 97) 24 = .ok (.goto 8, 3)) (by decide)
theorem zr_97_27 : zSnd 97 27 (o_aload 0 28) := zS_aload_n (i := 0) (by decide +kernel) rfl rfl
theorem zr_97_28 : zSnd 97 28 (o_iload 1 29) := zS_iload_n (i := 1) (by decide +kernel) rfl rfl
theorem zr_97_29 : zSnd 97 29 (o_callv 6 96 2 3 1 32) := zS_callV (n := 1) (idx := 166) (by decide +kernel) rfl rfl (by decide) rfl zq_303 zq_304 zq_305 (by decide +kernel) zMk_96 (by decide +kernel) (by decide +kernel) (by decide +kernel)
theorem zr_97_32 : zSnd 97 32 (o_iret) := zS_iret (by decide +kernel) (by decide +kernel)
theorem zT_97 (pc : Nat) : zSnd 97 pc (zc_97 pc) := by
  unfold zc_97
  exact (zSn_nd (zSn_nd (zSn_nd (zSn_nd (zSn_lf zr_97_0) (zSn_lf zr_97_1)) (zSn_nd (zSn_lf zr_97_2) (zSn_lf zr_97_5))) (zSn_nd (zSn_nd (zSn_lf zr_97_8) (zSn_lf zr_97_9)) (zSn_nd (zSn_lf zr_97_12) (zSn_lf zr_97_13)))) (zSn_nd (zSn_nd (zSn_nd (zSn_lf zr_97_16) (zSn_lf zr_97_17)) (zSn_nd (zSn_lf zr_97_20) (zSn_lf zr_97_23))) (zSn_nd (zSn_nd (zSn_lf zr_97_24) (zSn_lf zr_97_27)) (zSn_nd (zSn_lf zr_97_28) (zSn_nd (zSn_lf zr_97_29) (zSn_lf zr_97_32))))))
theorem zr_98_0 : zSnd 98 0 (o_aload 0 1) := zS_aload_n (i := 0) (by decide +kernel) rfl rfl
theorem zr_98_1 : zSnd 98 1 (o_const 0 2) := zS_iconst (by decide +kernel) rfl (by decide)
theorem zr_98_2 : zSnd 98 2 (o_putf 6 0 5) := zS_putf (idx := 22) (by decide +kernel) rfl (by decide) rfl (by decide) rfl zin_6 tyX5_ok nmX5 rfl (by decide +kernel) zq_177
theorem zr_98_5 : zSnd 98 5 (o_const 0 6) := zS_iconst (by decide +kernel) rfl (by decide)
theorem zr_98_6 : zSnd 98 6 (o_istore 1 7) := zS_istore_n (i := 1) (by decide +kernel) rfl rfl (by decide +kernel)
theorem zr_98_7 : zSnd 98 7 (o_const 1 8) := zS_iconst (by decide +kernel) rfl (by decide)
theorem zr_98_8 : zSnd 98 8 (o_istore 2 9) := zS_istore_n (i := 2) (by decide +kernel) rfl rfl (by decide +kernel)
theorem zr_98_9 : zSnd 98 9 (o_iload 2 10) := zS_iload_n (i := 2) (by decide +kernel) rfl rfl
theorem zr_98_10 : zSnd 98 10 (o_const 4 11) := zS_iconst (by decide +kernel) rfl (by decide)
theorem zr_98_11 : zSnd 98 11 (o_cge 39 14) := zS_cge (by decide +kernel : decode (zmB 98) 11 = .ok (.if_icmp .ge 28, 3)) rfl (by decide)
theorem zr_98_14 : zSnd 98 14 (o_aload 0 15) := zS_aload_n (i := 0) (by decide +kernel) rfl rfl
theorem zr_98_15 : zSnd 98 15 (o_iload 2 16) := zS_iload_n (i := 2) (by decide +kernel) rfl rfl
theorem zr_98_16 : zSnd 98 16 (o_callv 6 96 2 3 1 19) := zS_callV (n := 1) (idx := 166) (by decide +kernel) rfl rfl (by decide) rfl zq_303 zq_304 zq_305 (by decide +kernel) zMk_96 (by decide +kernel) (by decide +kernel) (by decide +kernel)
theorem zr_98_19 : zSnd 98 19 (o_aload 0 20) := zS_aload_n (i := 0) (by decide +kernel) rfl rfl
theorem zr_98_20 : zSnd 98 20 (o_iload 1 21) := zS_iload_n (i := 1) (by decide +kernel) rfl rfl
theorem zr_98_21 : zSnd 98 21 (o_callv 6 96 2 3 1 24) := zS_callV (n := 1) (idx := 166) (by decide +kernel) rfl rfl (by decide) rfl zq_303 zq_304 zq_305 (by decide +kernel) zMk_96 (by decide +kernel) (by decide +kernel) (by decide +kernel)
theorem zr_98_24 : zSnd 98 24 (o_cge 31 27) := zS_cge (by decide +kernel : decode (zmB 98) 24 = .ok (.if_icmp .ge 7, 3)) rfl (by decide)
theorem zr_98_27 : zSnd 98 27 (o_iload 2 28) := zS_iload_n (i := 2) (by decide +kernel) rfl rfl
theorem zr_98_28 : zSnd 98 28 (o_goto 32) := zS_goto (by decide +kernel : decode (zmB 98) 28 = .ok (.goto 4, 3)) (by decide)
theorem zr_98_31 : zSnd 98 31 (o_iload 1 32) := zS_iload_n (i := 1) (by decide +kernel) rfl rfl
theorem zr_98_32 : zSnd 98 32 (o_istore 1 33) := zS_istore_n (i := 1) (by decide +kernel) rfl rfl (by decide +kernel)
theorem zr_98_33 : zSnd 98 33 (o_iinc 2 1 36) := zS_iinc (by decide +kernel) rfl (by decide +kernel)
theorem zr_98_36 : zSnd 98 36 (o_goto 9) := zS_goto (by decide +kernel : decode (zmB 98) 36 = .ok (.goto (-27), 3)) (by decide)
theorem zr_98_39 : zSnd 98 39 (o_iload 1 40) := zS_iload_n (i := 1) (by decide +kernel) rfl rfl
theorem zr_98_40 : zSnd 98 40 (o_iret) := zS_iret (by decide +kernel) (by decide +kernel)
theorem zT_98 (pc : Nat) : zSnd 98 pc (zc_98 pc) := by
  unfold zc_98
  exact (zSn_nd (zSn_nd (zSn_nd (zSn_nd (zSn_lf zr_98_0) (zSn_nd (zSn_lf zr_98_1) (zSn_lf zr_98_2))) (zSn_nd (zSn_lf zr_98_5) (zSn_nd (zSn_lf zr_98_6) (zSn_lf zr_98_7)))) (zSn_nd (zSn_nd (zSn_lf zr_98_8) (zSn_nd (zSn_lf zr_98_9) (zSn_lf zr_98_10))) (zSn_nd (zSn_lf zr_98_11) (zSn_nd (zSn_lf zr_98_14) (zSn_lf zr_98_15))))) (zSn_nd (zSn_nd (zSn_nd (zSn_lf zr_98_16) (zSn_nd (zSn_lf zr_98_19) (zSn_lf zr_98_20))) (zSn_nd (zSn_lf zr_98_21) (zSn_nd (zSn_lf zr_98_24) (zSn_lf zr_98_27)))) (zSn_nd (zSn_nd (zSn_lf zr_98_28) (zSn_nd (zSn_lf zr_98_31) (zSn_lf zr_98_32))) (zSn_nd (zSn_nd (zSn_lf zr_98_33) (zSn_lf zr_98_36)) (zSn_nd (zSn_lf zr_98_39) (zSn_lf zr_98_40))))))
theorem zr_99_0 : zSnd 99 0 (o_aload 0 1) := zS_aload_n (i := 0) (by decide +kernel) rfl rfl
theorem zr_99_1 : zSnd 99 1 (o_callv 6 73 1 1 1 4) := zS_callV (n := 0) (idx := 121) (by decide +kernel) rfl rfl (by decide) rfl zq_261 zq_262 zq_263 (by decide +kernel) zMk_73 (by decide +kernel) (by decide +kernel) (by decide +kernel)
theorem zr_99_4 : zSnd 99 4 (o_ifne 9 7) := zS_ifne (by decide +kernel : decode (zmB 99) 4 = .ok (.ifCond .ne 5, 3)) rfl (by decide)
theorem zr_99_7 : zSnd 99 7 (o_const (-1) 8) := zS_iconst (by decide +kernel) rfl (by decide)
theorem zr_99_8 : zSnd 99 8 (o_iret) := zS_iret (by decide +kernel) (by decide +kernel)
theorem zr_99_9 : zSnd 99 9 (o_aload 0 10) := zS_aload_n (i := 0) (by decide +kernel) rfl rfl
theorem zr_99_10 : zSnd 99 10 (o_getf 6 1 13) := zS_getf (idx := 7) (by decide +kernel) rfl (by decide) rfl (by decide) rfl zin_6 zq_180
theorem zr_99_13 : zSnd 99 13 (o_const 0 14) := zS_iconst (by decide +kernel) rfl (by decide)
theorem zr_99_14 : zSnd 99 14 (o_aload 0 15) := zS_aload_n (i := 0) (by decide +kernel) rfl rfl
theorem zr_99_15 : zSnd 99 15 (o_getf 6 2 18) := zS_getf (idx := 13) (by decide +kernel) rfl (by decide) rfl (by decide) rfl zin_6 zq_302
theorem zr_99_18 : zSnd 99 18 (o_const 0 19) := zS_iconst (by decide +kernel) rfl (by decide)
theorem zr_99_19 : zSnd 99 19 (o_call 37 4 5 0 22) := zS_callS (idx := 29) (by decide +kernel) rfl zq_181 zq_182 (by decide +kernel) zMk_37 (by decide +kernel) (by decide +kernel) (by decide +kernel)
theorem zr_99_22 : zSnd 99 22 (o_aload 0 23) := zS_aload_n (i := 0) (by decide +kernel) rfl rfl
theorem zr_99_23 : zSnd 99 23 (o_callv 6 72 1 5 0 26) := zS_callV (n := 0) (idx := 125) (by decide +kernel) rfl rfl (by decide) rfl zq_264 zq_265 zq_266 (by decide +kernel) zMk_72 (by decide +kernel) (by decide +kernel) (by decide +kernel)
theorem zr_99_26 : zSnd 99 26 (o_aload 0 27) := zS_aload_n (i := 0) (by decide +kernel) rfl rfl
theorem zr_99_27 : zSnd 99 27 (o_const 3 28) := zS_iconst (by decide +kernel) rfl (by decide)
theorem zr_99_28 : zSnd 99 28 (o_callv 6 66 2 4 1 31) := zS_callV (n := 1) (idx := 115) (by decide +kernel) rfl rfl (by decide) rfl zq_255 zq_256 zq_257 (by decide +kernel) zMk_66 (by decide +kernel) (by decide +kernel) (by decide +kernel)
theorem zr_99_31 : zSnd 99 31 (o_istore 1 32) := zS_istore_n (i := 1) (by decide +kernel) rfl rfl (by decide +kernel)
theorem zr_99_32 : zSnd 99 32 (o_aload 0 33) := zS_aload_n (i := 0) (by decide +kernel) rfl rfl
theorem zr_99_33 : zSnd 99 33 (o_getf 6 2 36) := zS_getf (idx := 13) (by decide +kernel) rfl (by decide) rfl (by decide) rfl zin_6 zq_302
theorem zr_99_36 : zSnd 99 36 (o_const 0 37) := zS_iconst (by decide +kernel) rfl (by decide)
theorem zr_99_37 : zSnd 99 37 (o_aload 0 38) := zS_aload_n (i := 0) (by decide +kernel) rfl rfl
theorem zr_99_38 : zSnd 99 38 (o_getf 6 1 41) := zS_getf (idx := 7) (by decide +kernel) rfl (by decide) rfl (by decide) rfl zin_6 zq_180
theorem zr_99_41 : zSnd 99 41 (o_const 0 42) := zS_iconst (by decide +kernel) rfl (by decide)
theorem zr_99_42 : zSnd 99 42 (o_call 37 4 5 0 45) := zS_callS (idx := 29) (by decide +kernel) rfl zq_181 zq_182 (by decide +kernel) zMk_37 (by decide +kernel) (by decide +kernel) (by decide +kernel)
theorem zr_99_45 : zSnd 99 45 (o_iload 1 46) := zS_iload_n (i := 1) (by decide +kernel) rfl rfl
theorem zr_99_46 : zSnd 99 46 (o_iret) := zS_iret (by decide +kernel) (by decide +kernel)
theorem zT_99 (pc : Nat) : zSnd 99 pc (zc_99 pc) := by
  unfold zc_99
  exact (zSn_nd (zSn_nd (zSn_nd (zSn_nd (zSn_lf zr_99_0) (zSn_nd (zSn_lf zr_99_1) (zSn_lf zr_99_4))) (zSn_nd (zSn_lf zr_99_7) (zSn_nd (zSn_lf zr_99_8) (zSn_lf zr_99_9)))) (zSn_nd (zSn_nd (zSn_lf zr_99_10) (zSn_nd (zSn_lf zr_99_13) (zSn_lf zr_99_14))) (zSn_nd (zSn_nd (zSn_lf zr_99_15) (zSn_lf zr_99_18)) (zSn_nd (zSn_lf zr_99_19) (zSn_lf zr_99_22))))) (zSn_nd (zSn_nd (zSn_nd (zSn_lf zr_99_23) (zSn_nd (zSn_lf zr_99_26) (zSn_lf zr_99_27))) (zSn_nd (zSn_nd (zSn_lf zr_99_28) (zSn_lf zr_99_31)) (zSn_nd (zSn_lf zr_99_32) (zSn_lf zr_99_33)))) (zSn_nd (zSn_nd (zSn_lf zr_99_36) (zSn_nd (zSn_lf zr_99_37) (zSn_lf zr_99_38))) (zSn_nd (zSn_nd (zSn_lf zr_99_41) (zSn_lf zr_99_42)) (zSn_nd (zSn_lf zr_99_45) (zSn_lf zr_99_46))))))
theorem zr_100_0 : zSnd 100 0 (o_aload 0 1) := zS_aload_n (i := 0) (by decide +kernel) rfl rfl
theorem zr_100_1 : zSnd 100 1 (o_const 0 2) := zS_iconst (by decide +kernel) rfl (by decide)
theorem zr_100_2 : zSnd 100 2 (o_putf 6 0 5) := zS_putf (idx := 22) (by decide +kernel) rfl (by decide) rfl (by decide) rfl zin_6 tyX5_ok nmX5 rfl (by decide +kernel) zq_177
theorem zr_100_5 : zSnd 100 5 (o_aload 0 6) := zS_aload_n (i := 0) (by decide +kernel) rfl rfl
theorem zr_100_6 : zSnd 100 6 (o_callv 6 99 1 2 1 9) := zS_callV (n := 0) (idx := 169) (by decide +kernel) rfl rfl (by decide) rfl zq_306 zq_307 zq_308 (by decide +kernel) zMk_99 (by decide +kernel) (by decide +kernel) (by decide +kernel)
theorem zr_100_9 : zSnd 100 9 (o_iret) := zS_iret (by decide +kernel) (by decide +kernel)
theorem zT_100 (pc : Nat) : zSnd 100 pc (zc_100 pc) := by
  unfold zc_100
  exact (zSn_nd (zSn_nd (zSn_lf zr_100_0) (zSn_nd (zSn_lf zr_100_1) (zSn_lf zr_100_2))) (zSn_nd (zSn_lf zr_100_5) (zSn_nd (zSn_lf zr_100_6) (zSn_lf zr_100_9))))
theorem zr_101_0 : zSnd 101 0 (o_aload 0 1) := zS_aload_n (i := 0) (by decide +kernel) rfl rfl
theorem zr_101_1 : zSnd 101 1 (o_iload 1 2) := zS_iload_n (i := 1) (by decide +kernel) rfl rfl
theorem zr_101_2 : zSnd 101 2 (o_call 76 1 1 1 5) := zS_callS (idx := 128) (by decide +kernel) rfl zq_267 zq_268 (by decide +kernel) zMk_76 (by decide +kernel) (by decide +kernel) (by decide +kernel)
theorem zr_101_5 : zSnd 101 5 (o_ifeq 12 8) := zS_ifeq (by decide +kernel : decode (zmB 101) 5 = .ok (.ifCond .eq 7, 3)) rfl (by decide)
theorem zr_101_8 : zSnd 101 8 (o_const 0 9) := zS_iconst (by decide +kernel) rfl (by decide)
theorem zr_101_9 : zSnd 101 9 (o_goto 13) := zS_goto (by decide +kernel : decode (zmB 101) 9 = .ok (.goto 4, 3)) (by decide)
theorem zr_101_12 : zSnd 101 12 (o_const 1 13) := zS_iconst (by decide +kernel) rfl (by decide)
theorem zr_101_13 : zSnd 101 13 (o_putf 6 0 16) := zS_putf (idx := 22) (by decide +kernel) rfl (by decide) rfl (by decide) rfl zin_6 tyX5_ok nmX5 rfl (by decide +kernel) zq_177
theorem zr_101_16 : zSnd 101 16 (o_aload 0 17) := zS_aload_n (i := 0) (by decide +kernel) rfl rfl
theorem zr_101_17 : zSnd 101 17 (o_getf 6 0 20) := zS_getf (idx := 22) (by decide +kernel) rfl (by decide) rfl (by decide) rfl zin_6 zq_177
theorem zr_101_20 : zSnd 101 20 (o_ifgt 30 23) := zS_ifgt (by decide +kernel : decode (zmB 101) 20 = .ok (.ifCond .gt 10, 3)) rfl (by decide)
theorem zr_101_23 : zSnd 101 23 (o_aload 0 24) := zS_aload_n (i := 0) (by decide +kernel) rfl rfl
theorem zr_101_24 : zSnd 101 24 (o_callv 6 73 1 1 1 27) := zS_callV (n := 0) (idx := 121) (by decide +kernel) rfl rfl (by decide) rfl zq_261 zq_262 zq_263 (by decide +kernel) zMk_73 (by decide +kernel) (by decide +kernel) (by decide +kernel)
theorem zr_101_27 : zSnd 101 27 (o_ifne 43 30) := zS_ifne (by decide +kernel : decode (zmB 101) 27 = .ok (.ifCond .ne 16, 3)) rfl (by decide)
theorem zr_101_30 : zSnd 101 30 (o_aload 0 31) := zS_aload_n (i := 0) (by decide +kernel) rfl rfl
theorem zr_101_31 : zSnd 101 31 (o_getf 6 0 34) := zS_getf (idx := 22) (by decide +kernel) rfl (by decide) rfl (by decide) rfl zin_6 zq_177
theorem zr_101_34 : zSnd 101 34 (o_ifle 41 37) := zS_ifle (by decide +kernel : decode (zmB 101) 34 = .ok (.ifCond .le 7, 3)) rfl (by decide)
theorem zr_101_37 : zSnd 101 37 (o_const 0 38) := zS_iconst (by decide +kernel) rfl (by decide)
theorem zr_101_38 : zSnd 101 38 (o_goto 42) := zS_goto (by decide +kernel : decode (zmB 101) 38 = .ok (.goto 4, 3)) (by decide)
theorem zr_101_41 : zSnd 101 41 (o_const (-1) 42) := zS_iconst (by decide +kernel) rfl (by decide)
theorem zr_101_42 : zSnd 101 42 (o_iret) := zS_iret (by decide +kernel) (by decide +kernel)
theorem zr_101_43 : zSnd 101 43 (o_const (-1) 44) := zS_iconst (by decide +kernel) rfl (by decide)
theorem zr_101_44 : zSnd 101 44 (o_istore 2 45) := zS_istore_n (i := 2) (by decide +kernel) rfl rfl (by decide +kernel)
theorem zr_101_45 : zSnd 101 45 (o_const 0 46) := zS_iconst (by decide +kernel) rfl (by decide)
theorem zr_101_46 : zSnd 101 46 (o_istore 3 47) := zS_istore_n (i := 3) (by decide +kernel) rfl rfl (by decide +kernel)
theorem zr_101_47 : zSnd 101 47 (o_aload 0 48) := zS_aload_n (i := 0) (by decide +kernel) rfl rfl
theorem zr_101_48 : zSnd 101 48 (o_getf 6 1 51) := zS_getf (idx := 7) (by decide +kernel) rfl (by decide) rfl (by decide) rfl zin_6 zq_180
theorem zr_101_51 : zSnd 101 51 (o_const 0 52) := zS_iconst (by decide +kernel) rfl (by decide)
theorem zr_101_52 : zSnd 101 52 (o_aload 0 53) := zS_aload_n (i := 0) (by decide +kernel) rfl rfl
theorem zr_101_53 : zSnd 101 53 (o_getf 6 2 56) := zS_getf (idx := 13) (by decide +kernel) rfl (by decide) rfl (by decide) rfl zin_6 zq_302
theorem zr_101_56 : zSnd 101 56 (o_const 0 57) := zS_iconst (by decide +kernel) rfl (by decide)
theorem zr_101_57 : zSnd 101 57 (o_call 37 4 5 0 60) := zS_callS (idx := 29) (by decide +kernel) rfl zq_181 zq_182 (by decide +kernel) zMk_37 (by decide +kernel) (by decide +kernel) (by decide +kernel)
theorem zr_101_60 : zSnd 101 60 (o_const 0 61) := zS_iconst (by decide +kernel) rfl (by decide)
theorem zr_101_61 : zSnd 101 61 (o_istore 4 63) := zS_istore (by decide +kernel) rfl (by decide +kernel)
theorem zr_101_63 : zSnd 101 63 (o_iload 4 65) := zS_iload (by decide +kernel) rfl
theorem zr_101_65 : zSnd 101 65 (o_const 4 66) := zS_iconst (by decide +kernel) rfl (by decide)
theorem zr_101_66 : zSnd 101 66 (o_cge 144 69) := zS_cge (by decide +kernel : decode (zmB 101) 66 = .ok (.if_icmp .ge 78, 3)) rfl (by decide)
theorem zr_101_69 : zSnd 101 69 (o_aload 0 70) := zS_aload_n (i := 0) (by decide +kernel) rfl rfl
theorem zr_101_70 : zSnd 101 70 (o_iload 1 71) := zS_iload_n (i := 1) (by decide +kernel) rfl rfl
theorem zr_101_71 : zSnd 101 71 (o_iload 4 73) := zS_iload (by decide +kernel) rfl
theorem zr_101_73 : zSnd 101 73 (o_callv 6 75 3 7 0 76) := zS_callV (n := 2) (idx := 131) (by decide +kernel) rfl rfl (by decide) rfl zq_269 zq_270 zq_271 (by decide +kernel) zMk_75 (by decide +kernel) (by decide +kernel) (by decide +kernel)
theorem zr_101_76 : zSnd 101 76 (o_aload 0 77) := zS_aload_n (i := 0) (by decide +kernel) rfl rfl
theorem zr_101_77 : zSnd 101 77 (o_const 3 78) := zS_iconst (by decide +kernel) rfl (by decide)
theorem zr_101_78 : zSnd 101 78 (o_callv 6 66 2 4 1 81) := zS_callV (n := 1) (idx := 115) (by decide +kernel) rfl rfl (by decide) rfl zq_255 zq_256 zq_257 (by decide +kernel) zMk_66 (by decide +kernel) (by decide +kernel) (by decide +kernel)
theorem zr_101_81 : zSnd 101 81 (o_istore 5 83) := zS_istore (by decide +kernel) rfl (by decide +kernel)
theorem zr_101_83 : zSnd 101 83 (o_iload 2 84) := zS_iload_n (i := 2) (by decide +kernel) rfl rfl
theorem zr_101_84 : zSnd 101 84 (o_const (-1) 85) := zS_iconst (by decide +kernel) rfl (by decide)
theorem zr_101_85 : zSnd 101 85 (o_ceq 94 88) := zS_ceq (by decide +kernel : decode (zmB 101) 85 = .ok (.if_icmp .eq 9, 3)) rfl (by decide)
theorem zr_101_88 : zSnd 101 88 (o_iload 5 90) := zS_iload (by decide +kernel) rfl
theorem zr_101_90 : zSnd 101 90 (o_iload 3 91) := zS_iload_n (i := 3) (by decide +kernel) rfl rfl
theorem zr_101_91 : zSnd 101 91 (o_cge 98 94) := zS_cge (by decide +kernel : decode (zmB 101) 91 = .ok (.if_icmp .ge 7, 3)) rfl (by decide)
theorem zr_101_94 : zSnd 101 94 (o_const 1 95) := zS_iconst (by decide +kernel) rfl (by decide)
theorem zr_101_95 : zSnd 101 95 (o_goto 99) := zS_goto (by decide +kernel : decode (zmB 101) 95 = .ok (.goto 4, 3)) (by decide)
theorem zr_101_98 : zSnd 101 98 (o_const 0 99) := zS_iconst (by decide +kernel) rfl (by decide)
theorem zr_101_99 : zSnd 101 99 (o_istore 6 101) := zS_istore (by decide +kernel) rfl (by decide +kernel)
theorem zr_101_101 : zSnd 101 101 (o_iload 6 103) := zS_iload (by decide +kernel) rfl
theorem zr_101_103 : zSnd 101 103 (o_ifeq 111 106) := zS_ifeq (by decide +kernel : decode (zmB 101) 103 = .ok (.ifCond .eq 8, 3)) rfl (by decide)
theorem zr_101_106 : zSnd 101 106 (o_iload 4 108) := zS_iload (by decide +kernel) rfl
theorem zr_101_108 : zSnd 101 108 (o_goto 112) := zS_goto (by decide +kernel : decode (zmB 101) 108 = .ok (.goto 4, 3)) (by decide)
theorem zr_101_111 : zSnd 101 111 (o_iload 2 112) := zS_iload_n (i := 2) (by decide +kernel) rfl rfl
theorem zr_101_112 : zSnd 101 112 (o_istore 2 113) := zS_istore_n (i := 2) (by decide +kernel) rfl rfl (by decide +kernel)
theorem zr_101_113 : zSnd 101 113 (o_iload 6 115) := zS_iload (by decide +kernel) rfl
theorem zr_101_115 : zSnd 101 115 (o_ifeq 123 118) := zS_ifeq (by decide +kernel : decode (zmB 101) 115 = .ok (.ifCond .eq 8, 3)) rfl (by decide)
theorem zr_101_118 : zSnd 101 118 (o_iload 5 120) := zS_iload (by decide +kernel) rfl
theorem zr_101_120 : zSnd 101 120 (o_goto 124) := zS_goto (by decide +kernel : decode (zmB 101) 120 = .ok (.goto 4, 3)) (by decide)
theorem zr_101_123 : zSnd 101 123 (o_iload 3 124) := zS_iload_n (i := 3) (by decide +kernel) rfl rfl
theorem zr_101_124 : zSnd 101 124 (o_istore 3 125) := zS_istore_n (i := 3) (by decide +kernel) rfl rfl (by decide +kernel)
theorem zr_101_125 : zSnd 101 125 (o_aload 0 126) := zS_aload_n (i := 0) (by decide +kernel) rfl rfl
theorem zr_101_126 : zSnd 101 126 (o_getf 6 2 129) := zS_getf (idx := 13) (by decide +kernel) rfl (by decide) rfl (by decide) rfl zin_6 zq_302
theorem zr_101_129 : zSnd 101 129 (o_const 0 130) := zS_iconst (by decide +kernel) rfl (by decide)
theorem zr_101_130 : zSnd 101 130 (o_aload 0 131) := zS_aload_n (i := 0) (by decide +kernel) rfl rfl
theorem zr_101_131 : zSnd 101 131 (o_getf 6 1 134) := zS_getf (idx := 7) (by decide +kernel) rfl (by decide) rfl (by decide) rfl zin_6 zq_180
theorem zr_101_134 : zSnd 101 134 (o_const 0 135) := zS_iconst (by decide +kernel) rfl (by decide)
theorem zr_101_135 : zSnd 101 135 (o_call 37 4 5 0 138) := zS_callS (idx := 29) (by decide +kernel) rfl zq_181 zq_182 (by decide +kernel) zMk_37 (by decide +kernel) (by decide +kernel) (by decide +kernel)
theorem zr_101_138 : zSnd 101 138 (o_iinc 4 1 141) := zS_iinc (by decide +kernel) rfl (by decide +kernel)
theorem zr_101_141 : zSnd 101 141 (o_goto 63) := zS_goto (by decide +kernel : decode (zmB 101) 141 = .ok (.goto (-78), 3)) (by decide)
theorem zr_101_144 : zSnd 101 144 (o_const 1000000 146) := zS_ldc (idx := 172) (by decide +kernel) rfl (by decide) zq_309
theorem zr_101_146 : zSnd 101 146 (o_iload 2 147) := zS_iload_n (i := 2) (by decide +kernel) rfl rfl
theorem zr_101_147 : zSnd 101 147 (o_imul 148) := zS_imul (by decide +kernel) rfl
theorem zr_101_148 : zSnd 101 148 (o_iload 3 149) := zS_iload_n (i := 3) (by decide +kernel) rfl rfl
theorem zr_101_149 : zSnd 101 149 (o_const 999999 151) := zS_ldc (idx := 173) (by decide +kernel) rfl (by decide) zq_310
theorem zr_101_151 : zSnd 101 151 (o_cge 158 154) := zS_cge (by decide +kernel : decode (zmB 101) 151 = .ok (.if_icmp .ge 7, 3)) rfl (by decide)
theorem zr_101_154 : zSnd 101 154 (o_iload 3 155) := zS_iload_n (i := 3) (by decide +kernel) rfl rfl
theorem zr_101_155 : zSnd 101 155 (o_goto 160) := zS_goto (by decide +kernel : decode (zmB 101) 155 = .ok (.goto 5, 3)) (by decide)
theorem zr_101_158 : zSnd 101 158 (o_const 999999 160) := zS_ldc (idx := 173) (by decide +kernel) rfl (by decide) zq_310
theorem zr_101_160 : zSnd 101 160 (o_iadd 161) := zS_iadd (by decide +kernel) rfl
theorem zr_101_161 : zSnd 101 161 (o_iret) := zS_iret (by decide +kernel) (by decide +kernel)
theorem zT_101 (pc : Nat) : zSnd 101 pc (zc_101 pc) := by
  unfold zc_101
  exact (zSn_nd (zSn_nd (zSn_nd (zSn_nd (zSn_nd (zSn_nd (zSn_lf zr_101_0) (zSn_lf zr_101_1)) (zSn_nd (zSn_lf zr_101_2) (zSn_nd (zSn_lf zr_101_5) (zSn_lf zr_101_8)))) (zSn_nd (zSn_nd (zSn_lf zr_101_9) (zSn_lf zr_101_12)) (zSn_nd (zSn_lf zr_101_13) (zSn_nd (zSn_lf zr_101_16) (zSn_lf zr_101_17))))) (zSn_nd (zSn_nd (zSn_nd (zSn_lf zr_101_20) (zSn_lf zr_101_23)) (zSn_nd (zSn_lf zr_101_24) (zSn_nd (zSn_lf zr_101_27) (zSn_lf zr_101_30)))) (zSn_nd (zSn_nd (zSn_lf zr_101_31) (zSn_nd (zSn_lf zr_101_34) (zSn_lf zr_101_37))) (zSn_nd (zSn_lf zr_101_38) (zSn_nd (zSn_lf zr_101_41) (zSn_lf zr_101_42)))))) (zSn_nd (zSn_nd (zSn_nd (zSn_nd (zSn_lf zr_101_43) (zSn_lf zr_101_44)) (zSn_nd (zSn_lf zr_101_45) (zSn_nd (zSn_lf zr_101_46) (zSn_lf zr_101_47)))) (zSn_nd (zSn_nd (zSn_lf zr_101_48) (zSn_nd (zSn_lf zr_101_51) (zSn_lf zr_101_52))) (zSn_nd (zSn_lf zr_101_53) (zSn_nd (zSn_lf zr_101_56) (zSn_lf zr_101_57))))) (zSn_nd (zSn_nd (zSn_nd (zSn_lf zr_101_60) (zSn_lf zr_101_61)) (zSn_nd (zSn_lf zr_101_63) (zSn_nd (zSn_lf zr_101_65) (zSn_lf zr_101_66)))) (zSn_nd (zSn_nd (zSn_lf zr_101_69) (zSn_nd (zSn_lf zr_101_70) (zSn_lf zr_101_71))) (zSn_nd (zSn_lf zr_101_73) (zSn_nd (zSn_lf zr_101_76) (zSn_lf zr_101_77))))))) (zSn_nd (zSn_nd (zSn_nd (zSn_nd (zSn_nd (zSn_lf zr_101_78) (zSn_lf zr_101_81)) (zSn_nd (zSn_lf zr_101_83) (zSn_nd (zSn_lf zr_101_84) (zSn_lf zr_101_85)))) (zSn_nd (zSn_nd (zSn_lf zr_101_88) (zSn_nd (zSn_lf zr_101_90) (zSn_lf zr_101_91))) (zSn_nd (zSn_lf zr_101_94) (zSn_nd (zSn_lf zr_101_95) (zSn_lf zr_101_98))))) (zSn_nd (zSn_nd (zSn_nd (zSn_lf zr_101_99) (zSn_lf zr_101_101)) (zSn_nd (zSn_lf zr_101_103) (zSn_nd (zSn_lf zr_101_106) (zSn_lf zr_101_108)))) (zSn_nd (zSn_nd (zSn_lf zr_101_111) (zSn_nd (zSn_lf zr_101_112) (zSn_lf zr_101_113))) (zSn_nd (zSn_lf zr_101_115) (zSn_nd (zSn_lf zr_101_118) (zSn_lf zr_101_120)))))) (zSn_nd (zSn_nd (zSn_nd (zSn_nd (zSn_lf zr_101_123) (zSn_lf zr_101_124)) (zSn_nd (zSn_lf zr_101_125) (zSn_nd (zSn_lf zr_101_126) (zSn_lf zr_101_129)))) (zSn_nd (zSn_nd (zSn_lf zr_101_130) (zSn_nd (zSn_lf zr_101_131) (zSn_lf zr_101_134))) (zSn_nd (zSn_lf zr_101_135) (zSn_nd (zSn_lf zr_101_138) (zSn_lf zr_101_141))))) (zSn_nd (zSn_nd (zSn_nd (zSn_lf zr_101_144) (zSn_lf zr_101_146)) (zSn_nd (zSn_lf zr_101_147) (zSn_nd (zSn_lf zr_101_148) (zSn_lf zr_101_149)))) (zSn_nd (zSn_nd (zSn_lf zr_101_151) (zSn_nd (zSn_lf zr_101_154) (zSn_lf zr_101_155))) (zSn_nd (zSn_lf zr_101_158) (zSn_nd (zSn_lf zr_101_160) (zSn_lf zr_101_161))))))))
theorem zr_102_0 : zSnd 102 0 (o_aload 0 1) := zS_aload_n (i := 0) (by decide +kernel) rfl rfl
theorem zr_102_1 : zSnd 102 1 (o_iload 1 2) := zS_iload_n (i := 1) (by decide +kernel) rfl rfl
theorem zr_102_2 : zSnd 102 2 (o_call 69 1 1 1 5) := zS_callS (idx := 108) (by decide +kernel) rfl zq_250 zq_251 (by decide +kernel) zMk_69 (by decide +kernel) (by decide +kernel) (by decide +kernel)
theorem zr_102_5 : zSnd 102 5 (o_ifeq 12 8) := zS_ifeq (by decide +kernel : decode (zmB 102) 5 = .ok (.ifCond .eq 7, 3)) rfl (by decide)
theorem zr_102_8 : zSnd 102 8 (o_const 0 9) := zS_iconst (by decide +kernel) rfl (by decide)
theorem zr_102_9 : zSnd 102 9 (o_goto 13) := zS_goto (by decide +kernel : decode (zmB 102) 9 = .ok (.goto 4, 3)) (by decide)
theorem zr_102_12 : zSnd 102 12 (o_const 1 13) := zS_iconst (by decide +kernel) rfl (by decide)
theorem zr_102_13 : zSnd 102 13 (o_putf 6 0 16) := zS_putf (idx := 22) (by decide +kernel) rfl (by decide) rfl (by decide) rfl zin_6 tyX5_ok nmX5 rfl (by decide +kernel) zq_177
theorem zr_102_16 : zSnd 102 16 (o_aload 0 17) := zS_aload_n (i := 0) (by decide +kernel) rfl rfl
theorem zr_102_17 : zSnd 102 17 (o_getf 6 0 20) := zS_getf (idx := 22) (by decide +kernel) rfl (by decide) rfl (by decide) rfl zin_6 zq_177
theorem zr_102_20 : zSnd 102 20 (o_ifle 25 23) := zS_ifle (by decide +kernel : decode (zmB 102) 20 = .ok (.ifCond .le 5, 3)) rfl (by decide)
theorem zr_102_23 : zSnd 102 23 (o_const 0 24) := zS_iconst (by decide +kernel) rfl (by decide)
theorem zr_102_24 : zSnd 102 24 (o_iret) := zS_iret (by decide +kernel) (by decide +kernel)
theorem zr_102_25 : zSnd 102 25 (o_const (-1) 26) := zS_iconst (by decide +kernel) rfl (by decide)
theorem zr_102_26 : zSnd 102 26 (o_istore 2 27) := zS_istore_n (i := 2) (by decide +kernel) rfl rfl (by decide +kernel)
theorem zr_102_27 : zSnd 102 27 (o_aload 0 28) := zS_aload_n (i := 0) (by decide +kernel) rfl rfl
theorem zr_102_28 : zSnd 102 28 (o_iload 1 29) := zS_iload_n (i := 1) (by decide +kernel) rfl rfl
theorem zr_102_29 : zSnd 102 29 (o_callv 6 96 2 3 1 32) := zS_callV (n := 1) (idx := 166) (by decide +kernel) rfl rfl (by decide) rfl zq_303 zq_304 zq_305 (by decide +kernel) zMk_96 (by decide +kernel) (by decide +kernel) (by decide +kernel)
theorem zr_102_32 : zSnd 102 32 (o_istore 3 33) := zS_istore_n (i := 3) (by decide +kernel) rfl rfl (by decide +kernel)
theorem zr_102_33 : zSnd 102 33 (o_const 0 34) := zS_iconst (by decide +kernel) rfl (by decide)
theorem zr_102_34 : zSnd 102 34 (o_istore 4 36) := zS_istore (by decide +kernel) rfl (by decide +kernel)
theorem zr_102_36 : zSnd 102 36 (o_iload 4 38) := zS_iload (by decide +kernel) rfl
theorem zr_102_38 : zSnd 102 38 (o_aload 0 39) := zS_aload_n (i := 0) (by decide +kernel) rfl rfl
theorem zr_102_39 : zSnd 102 39 (o_getf 6 1 42) := zS_getf (idx := 7) (by decide +kernel) rfl (by decide) rfl (by decide) rfl zin_6 zq_180
theorem zr_102_42 : zSnd 102 42 (o_const 1 43) := zS_iconst (by decide +kernel) rfl (by decide)
theorem zr_102_43 : zSnd 102 43 (o_iald 44) := zS_iald (by decide +kernel) rfl
theorem zr_102_44 : zSnd 102 44 (o_cge 162 47) := zS_cge (by decide +kernel : decode (zmB 102) 44 = .ok (.if_icmp .ge 118, 3)) rfl (by decide)
theorem zr_102_47 : zSnd 102 47 (o_const 0 48) := zS_iconst (by decide +kernel) rfl (by decide)
theorem zr_102_48 : zSnd 102 48 (o_istore 5 50) := zS_istore (by decide +kernel) rfl (by decide +kernel)
theorem zr_102_50 : zSnd 102 50 (o_iload 5 52) := zS_iload (by decide +kernel) rfl
theorem zr_102_52 : zSnd 102 52 (o_aload 0 53) := zS_aload_n (i := 0) (by decide +kernel) rfl rfl
theorem zr_102_53 : zSnd 102 53 (o_iload 4 55) := zS_iload (by decide +kernel) rfl
theorem zr_102_55 : zSnd 102 55 (o_const 2 56) := zS_iconst (by decide +kernel) rfl (by decide)
theorem zr_102_56 : zSnd 102 56 (o_callv 6 42 3 3 1 59) := zS_callV (n := 2) (idx := 45) (by decide +kernel) rfl rfl (by decide) rfl zq_190 zq_191 zq_192 (by decide +kernel) zMk_42 (by decide +kernel) (by decide +kernel) (by decide +kernel)
theorem zr_102_59 : zSnd 102 59 (o_cge 156 62) := zS_cge (by decide +kernel : decode (zmB 102) 59 = .ok (.if_icmp .ge 97, 3)) rfl (by decide)
theorem zr_102_62 : zSnd 102 62 (o_aload 0 63) := zS_aload_n (i := 0) (by decide +kernel) rfl rfl
theorem zr_102_63 : zSnd 102 63 (o_iload 4 65) := zS_iload (by decide +kernel) rfl
theorem zr_102_65 : zSnd 102 65 (o_iload 5 67) := zS_iload (by decide +kernel) rfl
theorem zr_102_67 : zSnd 102 67 (o_const 1 68) := zS_iconst (by decide +kernel) rfl (by decide)
theorem zr_102_68 : zSnd 102 68 (o_callv 6 44 4 4 1 71) := zS_callV (n := 3) (idx := 73) (by decide +kernel) rfl rfl (by decide) rfl zq_217 zq_218 zq_219 (by decide +kernel) zMk_44 (by decide +kernel) (by decide +kernel) (by decide +kernel)
theorem zr_102_71 : zSnd 102 71 (o_const 1 72) := zS_iconst (by decide +kernel) rfl (by decide)
theorem zr_102_72 : zSnd 102 72 (o_cle 150 75) := zS_cle (by decide +kernel : decode (zmB 102) 72 = .ok (.if_icmp .le 78, 3)) rfl (by decide)
theorem zr_102_75 : zSnd 102 75 (o_aload 0 76) := zS_aload_n (i := 0) (by decide +kernel) rfl rfl
theorem zr_102_76 : zSnd 102 76 (o_getf 6 1 79) := zS_getf (idx := 7) (by decide +kernel) rfl (by decide) rfl (by decide) rfl zin_6 zq_180
theorem zr_102_79 : zSnd 102 79 (o_iload 4 81) := zS_iload (by decide +kernel) rfl
theorem zr_102_81 : zSnd 102 81 (o_iload 5 83) := zS_iload (by decide +kernel) rfl
theorem zr_102_83 : zSnd 102 83 (o_call 43 2 2 1 86) := zS_callS (idx := 37) (by decide +kernel) rfl zq_185 zq_186 (by decide +kernel) zMk_43 (by decide +kernel) (by decide +kernel) (by decide +kernel)
theorem zr_102_86 : zSnd 102 86 (o_const 1 87) := zS_iconst (by decide +kernel) rfl (by decide)
theorem zr_102_87 : zSnd 102 87 (o_iadd 88) := zS_iadd (by decide +kernel) rfl
theorem zr_102_88 : zSnd 102 88 (o_dup2 89) := zS_dup2 (by decide +kernel) rfl
theorem zr_102_89 : zSnd 102 89 (o_iald 90) := zS_iald (by decide +kernel) rfl
theorem zr_102_90 : zSnd 102 90 (o_const 1 91) := zS_iconst (by decide +kernel) rfl (by decide)
theorem zr_102_91 : zSnd 102 91 (o_isub 92) := zS_isub (by decide +kernel) rfl
theorem zr_102_92 : zSnd 102 92 (o_iast 93) := zS_iast (by decide +kernel) rfl
theorem zr_102_93 : zSnd 102 93 (o_aload 0 94) := zS_aload_n (i := 0) (by decide +kernel) rfl rfl
theorem zr_102_94 : zSnd 102 94 (o_iload 1 95) := zS_iload_n (i := 1) (by decide +kernel) rfl rfl
theorem zr_102_95 : zSnd 102 95 (o_callv 6 96 2 3 1 98) := zS_callV (n := 1) (idx := 166) (by decide +kernel) rfl rfl (by decide) rfl zq_303 zq_304 zq_305 (by decide +kernel) zMk_96 (by decide +kernel) (by decide +kernel) (by decide +kernel)
theorem zr_102_98 : zSnd 102 98 (o_istore 6 100) := zS_istore (by decide +kernel) rfl (by decide +kernel)
theorem zr_102_100 : zSnd 102 100 (o_aload 0 101) := zS_aload_n (i := 0) (by decide +kernel) rfl rfl
theorem zr_102_101 : zSnd 102 101 (o_getf 6 1 104) := zS_getf (idx := 7) (by decide +kernel) rfl (by decide) rfl (by decide) rfl zin_6 zq_180
theorem zr_102_104 : zSnd 102 104 (o_iload 4 106) := zS_iload (by decide +kernel) rfl
theorem zr_102_106 : zSnd 102 106 (o_iload 5 108) := zS_iload (by decide +kernel) rfl
theorem zr_102_108 : zSnd 102 108 (o_call 43 2 2 1 111) := zS_callS (idx := 37) (by decide +kernel) rfl zq_185 zq_186 (by decide +kernel) zMk_43 (by decide +kernel) (by decide +kernel) (by decide +kernel)
theorem zr_102_111 : zSnd 102 111 (o_const 1 112) := zS_iconst (by decide +kernel) rfl (by decide)
theorem zr_102_112 : zSnd 102 112 (o_iadd 113) := zS_iadd (by decide +kernel) rfl
theorem zr_102_113 : zSnd 102 113 (o_dup2 114) := zS_dup2 (by decide +kernel) rfl
theorem zr_102_114 : zSnd 102 114 (o_iald 115) := zS_iald (by decide +kernel) rfl
theorem zr_102_115 : zSnd 102 115 (o_const 1 116) := zS_iconst (by decide +kernel) rfl (by decide)
theorem zr_102_116 : zSnd 102 116 (o_iadd 117) := zS_iadd (by decide +kernel) rfl
theorem zr_102_117 : zSnd 102 117 (o_iast 118) := zS_iast (by decide +kernel) rfl
theorem zr_102_118 : zSnd 102 118 (o_iload 6 120) := zS_iload (by decide +kernel) rfl
theorem zr_102_120 : zSnd 102 120 (o_iload 3 121) := zS_iload_n (i := 3) (by decide +kernel) rfl rfl
theorem zr_102_121 : zSnd 102 121 (o_cge 135 124) := zS_cge (by decide +kernel : decode (zmB 102) 121 = .ok (.if_icmp .ge 14, 3)) rfl (by decide)
theorem zr_102_124 : zSnd 102 124 (o_const 10 126) := zS_bipush (by decide +kernel) rfl (by decide) (by decide)
theorem zr_102_126 : zSnd 102 126 (o_iload 4 128) := zS_iload (by decide +kernel) rfl
theorem zr_102_128 : zSnd 102 128 (o_imul 129) := zS_imul (by decide +kernel) rfl
theorem zr_102_129 : zSnd 102 129 (o_iload 5 131) := zS_iload (by decide +kernel) rfl
theorem zr_102_131 : zSnd 102 131 (o_iadd 132) := zS_iadd (by decide +kernel) rfl
theorem zr_102_132 : zSnd 102 132 (o_goto 136) := zS_goto (by decide +kernel : decode (zmB 102) 132 = .ok (.goto 4, 3)) (by decide)
theorem zr_102_135 : zSnd 102 135 (o_iload 2 136) := zS_iload_n (i := 2) (by decide +kernel) rfl rfl
theorem zr_102_136 : zSnd 102 136 (o_istore 2 137) := zS_istore_n (i := 2) (by decide +kernel) rfl rfl (by decide +kernel)
theorem zr_102_137 : zSnd 102 137 (o_iload 6 139) := zS_iload (by decide +kernel) rfl
theorem zr_102_139 : zSnd 102 139 (o_iload 3 140) := zS_iload_n (i := 3) (by decide +kernel) rfl rfl
theorem zr_102_140 : zSnd 102 140 (o_cge 148 143) := zS_cge (by decide +kernel : decode (zmB 102) 140 = .ok (.if_icmp .ge 8, 3)) rfl (by decide)
theorem zr_102_143 : zSnd 102 143 (o_iload 6 145) := zS_iload (by decide +kernel) rfl
theorem zr_102_145 : zSnd 102 145 (o_goto 149) := zS_goto (by decide +kernel : decode (zmB 102) 145 = .ok (.goto 4, 3)) (by decide)
theorem zr_102_148 : zSnd 102 148 (o_iload 3 149) := zS_iload_n (i := 3) (by decide +kernel) rfl rfl
theorem zr_102_149 : zSnd 102 149 (o_istore 3 150) := zS_istore_n (i := 3) (by decide +kernel) rfl rfl (by decide +kernel)
theorem zr_102_150 : zSnd 102 150 (o_iinc 5 1 153) := zS_iinc (by decide +kernel) rfl (by decide +kernel)
theorem zr_102_153 : zSnd 102 153 (o_goto 50) := zS_goto (by decide +kernel : decode (zmB 102) 153 = .ok (.goto (-103), 3)) (by decide)
theorem zr_102_156 : zSnd 102 156 (o_iinc 4 1 159) := zS_iinc (by decide +kernel) rfl (by decide +kernel)
theorem zr_102_159 : zSnd 102 159 (o_goto 36) := zS_goto (by decide +kernel : decode (zmB 102) 159 = .ok (.goto (-123), 3)) (by decide)
theorem zr_102_162 : zSnd 102 162 (o_iload 2 163) := zS_iload_n (i := 2) (by decide +kernel) rfl rfl
theorem zr_102_163 : zSnd 102 163 (o_iret) := zS_iret (by decide +kernel) (by decide +kernel)
theorem zT_102 (pc : Nat) : zSnd 102 pc (zc_102 pc) := by
  unfold zc_102
  exact (zSn_nd (zSn_nd (zSn_nd (zSn_nd (zSn_nd (zSn_nd (zSn_lf zr_102_0) (zSn_lf zr_102_1)) (zSn_nd (zSn_lf zr_102_2) (zSn_nd (zSn_lf zr_102_5) (zSn_lf zr_102_8)))) (zSn_nd (zSn_nd (zSn_lf zr_102_9) (zSn_nd (zSn_lf zr_102_12) (zSn_lf zr_102_13))) (zSn_nd (zSn_lf zr_102_16) (zSn_nd (zSn_lf zr_102_17) (zSn_lf zr_102_20))))) (zSn_nd (zSn_nd (zSn_nd (zSn_lf zr_102_23) (zSn_nd (zSn_lf zr_102_24) (zSn_lf zr_102_25))) (zSn_nd (zSn_lf zr_102_26) (zSn_nd (zSn_lf zr_102_27) (zSn_lf zr_102_28)))) (zSn_nd (zSn_nd (zSn_lf zr_102_29) (zSn_nd (zSn_lf zr_102_32) (zSn_lf zr_102_33))) (zSn_nd (zSn_lf zr_102_34) (zSn_nd (zSn_lf zr_102_36) (zSn_lf zr_102_38)))))) (zSn_nd (zSn_nd (zSn_nd (zSn_nd (zSn_lf zr_102_39) (zSn_nd (zSn_lf zr_102_42) (zSn_lf zr_102_43))) (zSn_nd (zSn_lf zr_102_44) (zSn_nd (zSn_lf zr_102_47) (zSn_lf zr_102_48)))) (zSn_nd (zSn_nd (zSn_lf zr_102_50) (zSn_nd (zSn_lf zr_102_52) (zSn_lf zr_102_53))) (zSn_nd (zSn_lf zr_102_55) (zSn_nd (zSn_lf zr_102_56) (zSn_lf zr_102_59))))) (zSn_nd (zSn_nd (zSn_nd (zSn_lf zr_102_62) (zSn_nd (zSn_lf zr_102_63) (zSn_lf zr_102_65))) (zSn_nd (zSn_lf zr_102_67) (zSn_nd (zSn_lf zr_102_68) (zSn_lf zr_102_71)))) (zSn_nd (zSn_nd (zSn_lf zr_102_72) (zSn_nd (zSn_lf zr_102_75) (zSn_lf zr_102_76))) (zSn_nd (zSn_lf zr_102_79) (zSn_nd (zSn_lf zr_102_81) (zSn_lf zr_102_83))))))) (zSn_nd (zSn_nd (zSn_nd (zSn_nd (zSn_nd (zSn_lf zr_102_86) (zSn_lf zr_102_87)) (zSn_nd (zSn_lf zr_102_88) (zSn_nd (zSn_lf zr_102_89) (zSn_lf zr_102_90)))) (zSn_nd (zSn_nd (zSn_lf zr_102_91) (zSn_nd (zSn_lf zr_102_92) (zSn_lf zr_102_93))) (zSn_nd (zSn_lf zr_102_94) (zSn_nd (zSn_lf zr_102_95) (zSn_lf zr_102_98))))) (zSn_nd (zSn_nd (zSn_nd (zSn_lf zr_102_100) (zSn_nd (zSn_lf zr_102_101) (zSn_lf zr_102_104))) (zSn_nd (zSn_lf zr_102_106) (zSn_nd (zSn_lf zr_102_108) (zSn_lf zr_102_111)))) (zSn_nd (zSn_nd (zSn_lf zr_102_112) (zSn_nd (zSn_lf zr_102_113) (zSn_lf zr_102_114))) (zSn_nd (zSn_lf zr_102_115) (zSn_nd (zSn_lf zr_102_116) (zSn_lf zr_102_117)))))) (zSn_nd (zSn_nd (zSn_nd (zSn_nd (zSn_lf zr_102_118) (zSn_nd (zSn_lf zr_102_120) (zSn_lf zr_102_121))) (zSn_nd (zSn_lf zr_102_124) (zSn_nd (zSn_lf zr_102_126) (zSn_lf zr_102_128)))) (zSn_nd (zSn_nd (zSn_lf zr_102_129) (zSn_nd (zSn_lf zr_102_131) (zSn_lf zr_102_132))) (zSn_nd (zSn_lf zr_102_135) (zSn_nd (zSn_lf zr_102_136) (zSn_lf zr_102_137))))) (zSn_nd (zSn_nd (zSn_nd (zSn_lf zr_102_139) (zSn_nd (zSn_lf zr_102_140) (zSn_lf zr_102_143))) (zSn_nd (zSn_lf zr_102_145) (zSn_nd (zSn_lf zr_102_148) (zSn_lf zr_102_149)))) (zSn_nd (zSn_nd (zSn_lf zr_102_150) (zSn_nd (zSn_lf zr_102_153) (zSn_lf zr_102_156))) (zSn_nd (zSn_lf zr_102_159) (zSn_nd (zSn_lf zr_102_162) (zSn_lf zr_102_163))))))))
theorem zr_103_0 : zSnd 103 0 (o_aload 0 1) := zS_aload_n (i := 0) (by decide +kernel) rfl rfl
theorem zr_103_1 : zSnd 103 1 (o_iload 1 2) := zS_iload_n (i := 1) (by decide +kernel) rfl rfl
theorem zr_103_2 : zSnd 103 2 (o_const 0 3) := zS_iconst (by decide +kernel) rfl (by decide)
theorem zr_103_3 : zSnd 103 3 (o_const 127 5) := zS_bipush (by decide +kernel) rfl (by decide) (by decide)
theorem zr_103_5 : zSnd 103 5 (o_call 38 3 3 1 8) := zS_callS (idx := 33) (by decide +kernel) rfl zq_183 zq_184 (by decide +kernel) zMk_38 (by decide +kernel) (by decide +kernel) (by decide +kernel)
theorem zr_103_8 : zSnd 103 8 (o_ifne 15 11) := zS_ifne (by decide +kernel : decode (zmB 103) 8 = .ok (.ifCond .ne 7, 3)) rfl (by decide)
theorem zr_103_11 : zSnd 103 11 (o_const 1 12) := zS_iconst (by decide +kernel) rfl (by decide)
theorem zr_103_12 : zSnd 103 12 (o_goto 29) := zS_goto (by decide +kernel : decode (zmB 103) 12 = .ok (.goto 17, 3)) (by decide)
theorem zr_103_15 : zSnd 103 15 (o_aload 0 16) := zS_aload_n (i := 0) (by decide +kernel) rfl rfl
theorem zr_103_16 : zSnd 103 16 (o_getf 6 6 19) := zS_getf (idx := 174) (by decide +kernel) rfl (by decide) rfl (by decide) rfl zin_6 zq_311
theorem zr_103_19 : zSnd 103 19 (o_const 100 21) := zS_bipush (by decide +kernel) rfl (by decide) (by decide)
theorem zr_103_21 : zSnd 103 21 (o_cne 28 24) := zS_cne (by decide +kernel : decode (zmB 103) 21 = .ok (.if_icmp .ne 7, 3)) rfl (by decide)
theorem zr_103_24 : zSnd 103 24 (o_const 2 25) := zS_iconst (by decide +kernel) rfl (by decide)
theorem zr_103_25 : zSnd 103 25 (o_goto 29) := zS_goto (by decide +kernel : decode (zmB 103) 25 = .ok (.goto 4, 3)) (by decide)
theorem zr_103_28 : zSnd 103 28 (o_const 0 29) := zS_iconst (by decide +kernel) rfl (by decide)
theorem zr_103_29 : zSnd 103 29 (o_putf 6 0 32) := zS_putf (idx := 22) (by decide +kernel) rfl (by decide) rfl (by decide) rfl zin_6 tyX5_ok nmX5 rfl (by decide +kernel) zq_177
theorem zr_103_32 : zSnd 103 32 (o_aload 0 33) := zS_aload_n (i := 0) (by decide +kernel) rfl rfl
theorem zr_103_33 : zSnd 103 33 (o_getf 6 0 36) := zS_getf (idx := 22) (by decide +kernel) rfl (by decide) rfl (by decide) rfl zin_6 zq_177
theorem zr_103_36 : zSnd 103 36 (o_ifle 41 39) := zS_ifle (by decide +kernel : decode (zmB 103) 36 = .ok (.ifCond .le 5, 3)) rfl (by decide)
theorem zr_103_39 : zSnd 103 39 (o_const 0 40) := zS_iconst (by decide +kernel) rfl (by decide)
theorem zr_103_40 : zSnd 103 40 (o_iret) := zS_iret (by decide +kernel) (by decide +kernel)
theorem zr_103_41 : zSnd 103 41 (o_aload 0 42) := zS_aload_n (i := 0) (by decide +kernel) rfl rfl
theorem zr_103_42 : zSnd 103 42 (o_getf 6 5 45) := zS_getf (idx := 19) (by decide +kernel) rfl (by decide) rfl (by decide) rfl zin_6 zq_312
theorem zr_103_45 : zSnd 103 45 (o_aload 0 46) := zS_aload_n (i := 0) (by decide +kernel) rfl rfl
theorem zr_103_46 : zSnd 103 46 (o_getf 6 6 49) := zS_getf (idx := 174) (by decide +kernel) rfl (by decide) rfl (by decide) rfl zin_6 zq_311
theorem zr_103_49 : zSnd 103 49 (o_iload 1 50) := zS_iload_n (i := 1) (by decide +kernel) rfl rfl
theorem zr_103_50 : zSnd 103 50 (o_iast 51) := zS_iast (by decide +kernel) rfl
theorem zr_103_51 : zSnd 103 51 (o_aload 0 52) := zS_aload_n (i := 0) (by decide +kernel) rfl rfl
theorem zr_103_52 : zSnd 103 52 (o_dup 53) := zS_dup (by decide +kernel) rfl
theorem zr_103_53 : zSnd 103 53 (o_getf 6 6 56) := zS_getf (idx := 174) (by decide +kernel) rfl (by decide) rfl (by decide) rfl zin_6 zq_311
theorem zr_103_56 : zSnd 103 56 (o_const 1 57) := zS_iconst (by decide +kernel) rfl (by decide)
theorem zr_103_57 : zSnd 103 57 (o_iadd 58) := zS_iadd (by decide +kernel) rfl
theorem zr_103_58 : zSnd 103 58 (o_putf 6 6 61) := zS_putf (idx := 174) (by decide +kernel) rfl (by decide) rfl (by decide) rfl zin_6 tyX5_ok nmX5 rfl (by decide +kernel) zq_311
theorem zr_103_61 : zSnd 103 61 (o_aload 0 62) := zS_aload_n (i := 0) (by decide +kernel) rfl rfl
theorem zr_103_62 : zSnd 103 62 (o_getf 6 6 65) := zS_getf (idx := 174) (by decide +kernel) rfl (by decide) rfl (by decide) rfl zin_6 zq_311
theorem zr_103_65 : zSnd 103 65 (o_iret) := zS_iret (by decide +kernel) (by decide +kernel)
theorem zT_103 (pc : Nat) : zSnd 103 pc (zc_103 pc) := by
  unfold zc_103
  exact (zSn_nd (zSn_nd (zSn_nd (zSn_nd (zSn_nd (zSn_lf zr_103_0) (zSn_lf zr_103_1)) (zSn_nd (zSn_lf zr_103_2) (zSn_lf zr_103_3))) (zSn_nd (zSn_nd (zSn_lf zr_103_5) (zSn_lf zr_103_8)) (zSn_nd (zSn_lf zr_103_11) (zSn_nd (zSn_lf zr_103_12) (zSn_lf zr_103_15))))) (zSn_nd (zSn_nd (zSn_nd (zSn_lf zr_103_16) (zSn_lf zr_103_19)) (zSn_nd (zSn_lf zr_103_21) (zSn_lf zr_103_24))) (zSn_nd (zSn_nd (zSn_lf zr_103_25) (zSn_lf zr_103_28)) (zSn_nd (zSn_lf zr_103_29) (zSn_nd (zSn_lf zr_103_32) (zSn_lf zr_103_33)))))) (zSn_nd (zSn_nd (zSn_nd (zSn_nd (zSn_lf zr_103_36) (zSn_lf zr_103_39)) (zSn_nd (zSn_lf zr_103_40) (zSn_lf zr_103_41))) (zSn_nd (zSn_nd (zSn_lf zr_103_42) (zSn_lf zr_103_45)) (zSn_nd (zSn_lf zr_103_46) (zSn_nd (zSn_lf zr_103_49) (zSn_lf zr_103_50))))) (zSn_nd (zSn_nd (zSn_nd (zSn_lf zr_103_51) (zSn_lf zr_103_52)) (zSn_nd (zSn_lf zr_103_53) (zSn_lf zr_103_56))) (zSn_nd (zSn_nd (zSn_lf zr_103_57) (zSn_lf zr_103_58)) (zSn_nd (zSn_lf zr_103_61) (zSn_nd (zSn_lf zr_103_62) (zSn_lf zr_103_65)))))))
theorem zr_104_0 : zSnd 104 0 (o_aload 0 1) := zS_aload_n (i := 0) (by decide +kernel) rfl rfl
theorem zr_104_1 : zSnd 104 1 (o_const 0 2) := zS_iconst (by decide +kernel) rfl (by decide)
theorem zr_104_2 : zSnd 104 2 (o_putf 6 0 5) := zS_putf (idx := 22) (by decide +kernel) rfl (by decide) rfl (by decide) rfl zin_6 tyX5_ok nmX5 rfl (by decide +kernel) zq_177
theorem zr_104_5 : zSnd 104 5 (o_aload 0 6) := zS_aload_n (i := 0) (by decide +kernel) rfl rfl
theorem zr_104_6 : zSnd 104 6 (o_getf 6 6 9) := zS_getf (idx := 174) (by decide +kernel) rfl (by decide) rfl (by decide) rfl zin_6 zq_311
theorem zr_104_9 : zSnd 104 9 (o_istore 1 10) := zS_istore_n (i := 1) (by decide +kernel) rfl rfl (by decide +kernel)
theorem zr_104_10 : zSnd 104 10 (o_aload 0 11) := zS_aload_n (i := 0) (by decide +kernel) rfl rfl
theorem zr_104_11 : zSnd 104 11 (o_const 0 12) := zS_iconst (by decide +kernel) rfl (by decide)
theorem zr_104_12 : zSnd 104 12 (o_putf 6 6 15) := zS_putf (idx := 174) (by decide +kernel) rfl (by decide) rfl (by decide) rfl zin_6 tyX5_ok nmX5 rfl (by decide +kernel) zq_311
theorem zr_104_15 : zSnd 104 15 (o_iload 1 16) := zS_iload_n (i := 1) (by decide +kernel) rfl rfl
theorem zr_104_16 : zSnd 104 16 (o_iret) := zS_iret (by decide +kernel) (by decide +kernel)
theorem zT_104 (pc : Nat) : zSnd 104 pc (zc_104 pc) := by
  unfold zc_104
  exact (zSn_nd (zSn_nd (zSn_nd (zSn_lf zr_104_0) (zSn_lf zr_104_1)) (zSn_nd (zSn_lf zr_104_2) (zSn_nd (zSn_lf zr_104_5) (zSn_lf zr_104_6)))) (zSn_nd (zSn_nd (zSn_lf zr_104_9) (zSn_nd (zSn_lf zr_104_10) (zSn_lf zr_104_11))) (zSn_nd (zSn_lf zr_104_12) (zSn_nd (zSn_lf zr_104_15) (zSn_lf zr_104_16)))))
theorem zr_105_0 : zSnd 105 0 (o_aload 0 1) := zS_aload_n (i := 0) (by decide +kernel) rfl rfl
theorem zr_105_1 : zSnd 105 1 (o_getf 6 7 4) := zS_getf (idx := 177) (by decide +kernel) rfl (by decide) rfl (by decide) rfl zin_6 zq_313
theorem zr_105_4 : zSnd 105 4 (o_aload 0 5) := zS_aload_n (i := 0) (by decide +kernel) rfl rfl
theorem zr_105_5 : zSnd 105 5 (o_getf 6 6 8) := zS_getf (idx := 174) (by decide +kernel) rfl (by decide) rfl (by decide) rfl zin_6 zq_311
theorem zr_105_8 : zSnd 105 8 (o_cge 23 11) := zS_cge (by decide +kernel : decode (zmB 105) 8 = .ok (.if_icmp .ge 15, 3)) rfl (by decide)
theorem zr_105_11 : zSnd 105 11 (o_aload 0 12) := zS_aload_n (i := 0) (by decide +kernel) rfl rfl
theorem zr_105_12 : zSnd 105 12 (o_getf 6 5 15) := zS_getf (idx := 19) (by decide +kernel) rfl (by decide) rfl (by decide) rfl zin_6 zq_312
theorem zr_105_15 : zSnd 105 15 (o_aload 0 16) := zS_aload_n (i := 0) (by decide +kernel) rfl rfl
theorem zr_105_16 : zSnd 105 16 (o_getf 6 7 19) := zS_getf (idx := 177) (by decide +kernel) rfl (by decide) rfl (by decide) rfl zin_6 zq_313
theorem zr_105_19 : zSnd 105 19 (o_iald 20) := zS_iald (by decide +kernel) rfl
theorem zr_105_20 : zSnd 105 20 (o_goto 24) := zS_goto (by decide +kernel : decode (zmB 105) 20 = .ok (.goto 4, 3)) (by decide)
theorem zr_105_23 : zSnd 105 23 (o_const (-1) 24) := zS_iconst (by decide +kernel) rfl (by decide)
theorem zr_105_24 : zSnd 105 24 (o_iret) := zS_iret (by decide +kernel) (by decide +kernel)
theorem zT_105 (pc : Nat) : zSnd 105 pc (zc_105 pc) := by
  unfold zc_105
  exact (zSn_nd (zSn_nd (zSn_nd (zSn_lf zr_105_0) (zSn_nd (zSn_lf zr_105_1) (zSn_lf zr_105_4))) (zSn_nd (zSn_lf zr_105_5) (zSn_nd (zSn_lf zr_105_8) (zSn_lf zr_105_11)))) (zSn_nd (zSn_nd (zSn_lf zr_105_12) (zSn_nd (zSn_lf zr_105_15) (zSn_lf zr_105_16))) (zSn_nd (zSn_nd (zSn_lf zr_105_19) (zSn_lf zr_105_20)) (zSn_nd (zSn_lf zr_105_23) (zSn_lf zr_105_24)))))
theorem zr_106_0 : zSnd 106 0 (o_aload 0 1) := zS_aload_n (i := 0) (by decide +kernel) rfl rfl
theorem zr_106_1 : zSnd 106 1 (o_callv 6 105 1 1 1 4) := zS_callV (n := 0) (idx := 180) (by decide +kernel) rfl rfl (by decide) rfl zq_314 zq_315 zq_316 (by decide +kernel) zMk_105 (by decide +kernel) (by decide +kernel) (by decide +kernel)
theorem zr_106_4 : zSnd 106 4 (o_iload 1 5) := zS_iload_n (i := 1) (by decide +kernel) rfl rfl
theorem zr_106_5 : zSnd 106 5 (o_cne 12 8) := zS_cne (by decide +kernel : decode (zmB 106) 5 = .ok (.if_icmp .ne 7, 3)) rfl (by decide)
theorem zr_106_8 : zSnd 106 8 (o_const 1 9) := zS_iconst (by decide +kernel) rfl (by decide)
theorem zr_106_9 : zSnd 106 9 (o_goto 13) := zS_goto (by decide +kernel : decode (zmB 106) 9 = .ok (.goto 4, 3)) (by decide)
theorem zr_106_12 : zSnd 106 12 (o_const 0 13) := zS_iconst (by decide +kernel) rfl (by decide)
theorem zr_106_13 : zSnd 106 13 (o_istore 2 14) := zS_istore_n (i := 2) (by decide +kernel) rfl rfl (by decide +kernel)
theorem zr_106_14 : zSnd 106 14 (o_aload 0 15) := zS_aload_n (i := 0) (by decide +kernel) rfl rfl
theorem zr_106_15 : zSnd 106 15 (o_dup 16) := zS_dup (by decide +kernel) rfl
theorem zr_106_16 : zSnd 106 16 (o_getf 6 7 19) := zS_getf (idx := 177) (by decide +kernel) rfl (by decide) rfl (by decide) rfl zin_6 zq_313
theorem zr_106_19 : zSnd 106 19 (o_iload 2 20) := zS_iload_n (i := 2) (by decide +kernel) rfl rfl
theorem zr_106_20 : zSnd 106 20 (o_ifeq 27 23) := zS_ifeq (by decide +kernel : decode (zmB 106) 20 = .ok (.ifCond .eq 7, 3)) rfl (by decide)
theorem zr_106_23 : zSnd 106 23 (o_const 1 24) := zS_iconst (by decide +kernel) rfl (by decide)
theorem zr_106_24 : zSnd 106 24 (o_goto 28) := zS_goto (by decide +kernel : decode (zmB 106) 24 = .ok (.goto 4, 3)) (by decide)
theorem zr_106_27 : zSnd 106 27 (o_const 0 28) := zS_iconst (by decide +kernel) rfl (by decide)
theorem zr_106_28 : zSnd 106 28 (o_iadd 29) := zS_iadd (by decide +kernel) rfl
theorem zr_106_29 : zSnd 106 29 (o_putf 6 7 32) := zS_putf (idx := 177) (by decide +kernel) rfl (by decide) rfl (by decide) rfl zin_6 tyX5_ok nmX5 rfl (by decide +kernel) zq_313
theorem zr_106_32 : zSnd 106 32 (o_iload 2 33) := zS_iload_n (i := 2) (by decide +kernel) rfl rfl
theorem zr_106_33 : zSnd 106 33 (o_zret) := zS_zret (by decide +kernel) (by decide +kernel)
theorem zT_106 (pc : Nat) : zSnd 106 pc (zc_106 pc) := by
  unfold zc_106
  exact (zSn_nd (zSn_nd (zSn_nd (zSn_nd (zSn_lf zr_106_0) (zSn_lf zr_106_1)) (zSn_nd (zSn_lf zr_106_4) (zSn_nd (zSn_lf zr_106_5) (zSn_lf zr_106_8)))) (zSn_nd (zSn_nd (zSn_lf zr_106_9) (zSn_lf zr_106_12)) (zSn_nd (zSn_lf zr_106_13) (zSn_nd (zSn_lf zr_106_14) (zSn_lf zr_106_15))))) (zSn_nd (zSn_nd (zSn_nd (zSn_lf zr_106_16) (zSn_lf zr_106_19)) (zSn_nd (zSn_lf zr_106_20) (zSn_nd (zSn_lf zr_106_23) (zSn_lf zr_106_24)))) (zSn_nd (zSn_nd (zSn_lf zr_106_27) (zSn_lf zr_106_28)) (zSn_nd (zSn_lf zr_106_29) (zSn_nd (zSn_lf zr_106_32) (zSn_lf zr_106_33))))))
theorem zr_107_0 : zSnd 107 0 (o_aload 0 1) := zS_aload_n (i := 0) (by decide +kernel) rfl rfl
theorem zr_107_1 : zSnd 107 1 (o_callv 6 105 1 1 1 4) := zS_callV (n := 0) (idx := 180) (by decide +kernel) rfl rfl (by decide) rfl zq_314 zq_315 zq_316 (by decide +kernel) zMk_105 (by decide +kernel) (by decide +kernel) (by decide +kernel)
theorem zr_107_4 : zSnd 107 4 (o_const 48 6) := zS_bipush (by decide +kernel) rfl (by decide) (by decide)
theorem zr_107_6 : zSnd 107 6 (o_isub 7) := zS_isub (by decide +kernel) rfl
theorem zr_107_7 : zSnd 107 7 (o_istore 3 8) := zS_istore_n (i := 3) (by decide +kernel) rfl rfl (by decide +kernel)
theorem zr_107_8 : zSnd 107 8 (o_aload 0 9) := zS_aload_n (i := 0) (by decide +kernel) rfl rfl
theorem zr_107_9 : zSnd 107 9 (o_callv 6 105 1 1 1 12) := zS_callV (n := 0) (idx := 180) (by decide +kernel) rfl rfl (by decide) rfl zq_314 zq_315 zq_316 (by decide +kernel) zMk_105 (by decide +kernel) (by decide +kernel) (by decide +kernel)
theorem zr_107_12 : zSnd 107 12 (o_iflt 28 15) := zS_iflt (by decide +kernel : decode (zmB 107) 12 = .ok (.ifCond .lt 16, 3)) rfl (by decide)
theorem zr_107_15 : zSnd 107 15 (o_iload 3 16) := zS_iload_n (i := 3) (by decide +kernel) rfl rfl
theorem zr_107_16 : zSnd 107 16 (o_iload 1 17) := zS_iload_n (i := 1) (by decide +kernel) rfl rfl
theorem zr_107_17 : zSnd 107 17 (o_iload 2 18) := zS_iload_n (i := 2) (by decide +kernel) rfl rfl
theorem zr_107_18 : zSnd 107 18 (o_call 38 3 3 1 21) := zS_callS (idx := 33) (by decide +kernel) rfl zq_183 zq_184 (by decide +kernel) zMk_38 (by decide +kernel) (by decide +kernel) (by decide +kernel)
theorem zr_107_21 : zSnd 107 21 (o_ifeq 28 24) := zS_ifeq (by decide +kernel : decode (zmB 107) 21 = .ok (.ifCond .eq 7, 3)) rfl (by decide)
theorem zr_107_24 : zSnd 107 24 (o_const 1 25) := zS_iconst (by decide +kernel) rfl (by decide)
theorem zr_107_25 : zSnd 107 25 (o_goto 29) := zS_goto (by decide +kernel : decode (zmB 107) 25 = .ok (.goto 4, 3)) (by decide)
theorem zr_107_28 : zSnd 107 28 (o_const 0 29) := zS_iconst (by decide +kernel) rfl (by decide)
theorem zr_107_29 : zSnd 107 29 (o_istore 4 31) := zS_istore (by decide +kernel) rfl (by decide +kernel)
theorem zr_107_31 : zSnd 107 31 (o_aload 0 32) := zS_aload_n (i := 0) (by decide +kernel) rfl rfl
theorem zr_107_32 : zSnd 107 32 (o_dup 33) := zS_dup (by decide +kernel) rfl
theorem zr_107_33 : zSnd 107 33 (o_getf 6 7 36) := zS_getf (idx := 177) (by decide +kernel) rfl (by decide) rfl (by decide) rfl zin_6 zq_313
theorem zr_107_36 : zSnd 107 36 (o_iload 4 38) := zS_iload (by decide +kernel) rfl
theorem zr_107_38 : zSnd 107 38 (o_ifeq 45 41) := zS_ifeq (by decide +kernel : decode (zmB 107) 38 = .ok (.ifCond .eq 7, 3)) rfl (by decide)
theorem zr_107_41 : zSnd 107 41 (o_const 1 42) := zS_iconst (by decide +kernel) rfl (by decide)
theorem zr_107_42 : zSnd 107 42 (o_goto 46) := zS_goto (by decide +kernel : decode (zmB 107) 42 = .ok (.goto 4, 3)) (by decide)
theorem zr_107_45 : zSnd 107 45 (o_const 0 46) := zS_iconst (by decide +kernel) rfl (by decide)
theorem zr_107_46 : zSnd 107 46 (o_iadd 47) := zS_iadd (by decide +kernel) rfl
theorem zr_107_47 : zSnd 107 47 (o_putf 6 7 50) := zS_putf (idx := 177) (by decide +kernel) rfl (by decide) rfl (by decide) rfl zin_6 tyX5_ok nmX5 rfl (by decide +kernel) zq_313
theorem zr_107_50 : zSnd 107 50 (o_iload 4 52) := zS_iload (by decide +kernel) rfl
theorem zr_107_52 : zSnd 107 52 (o_ifeq 59 55) := zS_ifeq (by decide +kernel : decode (zmB 107) 52 = .ok (.ifCond .eq 7, 3)) rfl (by decide)
theorem zr_107_55 : zSnd 107 55 (o_iload 3 56) := zS_iload_n (i := 3) (by decide +kernel) rfl rfl
theorem zr_107_56 : zSnd 107 56 (o_goto 60) := zS_goto (by decide +kernel : decode (zmB 107) 56 = .ok (.goto 4, 3)) (by decide)
theorem zr_107_59 : zSnd 107 59 (o_const (-1) 60) := zS_iconst (by decide +kernel) rfl (by decide)
theorem zr_107_60 : zSnd 107 60 (o_iret) := zS_iret (by decide +kernel) (by decide +kernel)
theorem zT_107 (pc : Nat) : zSnd 107 pc (zc_107 pc) := by
  unfold zc_107
  exact (zSn_nd (zSn_nd (zSn_nd (zSn_nd (zSn_nd (zSn_lf zr_107_0) (zSn_lf zr_107_1)) (zSn_nd (zSn_lf zr_107_4) (zSn_lf zr_107_6))) (zSn_nd (zSn_nd (zSn_lf zr_107_7) (zSn_lf zr_107_8)) (zSn_nd (zSn_lf zr_107_9) (zSn_lf zr_107_12)))) (zSn_nd (zSn_nd (zSn_nd (zSn_lf zr_107_15) (zSn_lf zr_107_16)) (zSn_nd (zSn_lf zr_107_17) (zSn_lf zr_107_18))) (zSn_nd (zSn_nd (zSn_lf zr_107_21) (zSn_lf zr_107_24)) (zSn_nd (zSn_lf zr_107_25) (zSn_lf zr_107_28))))) (zSn_nd (zSn_nd (zSn_nd (zSn_nd (zSn_lf zr_107_29) (zSn_lf zr_107_31)) (zSn_nd (zSn_lf zr_107_32) (zSn_lf zr_107_33))) (zSn_nd (zSn_nd (zSn_lf zr_107_36) (zSn_lf zr_107_38)) (zSn_nd (zSn_lf zr_107_41) (zSn_lf zr_107_42)))) (zSn_nd (zSn_nd (zSn_nd (zSn_lf zr_107_45) (zSn_lf zr_107_46)) (zSn_nd (zSn_lf zr_107_47) (zSn_lf zr_107_50))) (zSn_nd (zSn_nd (zSn_lf zr_107_52) (zSn_lf zr_107_55)) (zSn_nd (zSn_lf zr_107_56) (zSn_nd (zSn_lf zr_107_59) (zSn_lf zr_107_60)))))))
