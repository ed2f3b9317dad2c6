/-! ===== 11: a row for each step (written by a program) ===== -/
theorem zr_122_0 : zSnd 122 0 (o_aload 0 1) := zS_aload_n (i := 0) (by decide +kernel) rfl rfl
theorem zr_122_1 : zSnd 122 1 (o_aload 0 2) := zS_aload_n (i := 0) (by decide +kernel) rfl rfl
theorem zr_122_2 : zSnd 122 2 (o_const 1 3) := zS_iconst (by decide +kernel) rfl (by decide)
theorem zr_122_3 : zSnd 122 3 (o_const 9 5) := zS_bipush (by decide +kernel) rfl (by decide) (by decide)
theorem zr_122_5 : zSnd 122 5 (o_callv 2 128 3 4 1 8) := zS_callV (n := 2) (idx := 48) (by decide +kernel) rfl rfl (by decide) rfl zq_375 zq_376 zq_377 (by decide +kernel) zMk_128 (by decide +kernel) (by decide +kernel) (by decide +kernel)
theorem zr_122_8 : zSnd 122 8 (o_putf 2 5 11) := zS_putf (idx := 52) (by decide +kernel) rfl (by decide) rfl (by decide) rfl zin_2 tyX1_ok nmX1 rfl (by decide +kernel) zq_378
theorem zr_122_11 : zSnd 122 11 (o_aload 0 12) := zS_aload_n (i := 0) (by decide +kernel) rfl rfl
theorem zr_122_12 : zSnd 122 12 (o_const 44 14) := zS_bipush (by decide +kernel) rfl (by decide) (by decide)
theorem zr_122_14 : zSnd 122 14 (o_callv 2 127 2 2 0 17) := zS_callV (n := 1) (idx := 55) (by decide +kernel) rfl rfl (by decide) rfl zq_379 zq_380 zq_381 (by decide +kernel) zMk_127 (by decide +kernel) (by decide +kernel) (by decide +kernel)
theorem zr_122_17 : zSnd 122 17 (o_aload 0 18) := zS_aload_n (i := 0) (by decide +kernel) rfl rfl
theorem zr_122_18 : zSnd 122 18 (o_aload 0 19) := zS_aload_n (i := 0) (by decide +kernel) rfl rfl
theorem zr_122_19 : zSnd 122 19 (o_const 3 20) := zS_iconst (by decide +kernel) rfl (by decide)
theorem zr_122_20 : zSnd 122 20 (o_const 0 21) := zS_iconst (by decide +kernel) rfl (by decide)
theorem zr_122_21 : zSnd 122 21 (o_const 999 24) := zS_sipush (by decide +kernel) rfl (by decide) (by decide)
theorem zr_122_24 : zSnd 122 24 (o_callv 2 129 4 7 1 27) := zS_callV (n := 3) (idx := 59) (by decide +kernel) rfl rfl (by decide) rfl zq_382 zq_383 zq_384 (by decide +kernel) zMk_129 (by decide +kernel) (by decide +kernel) (by decide +kernel)
theorem zr_122_27 : zSnd 122 27 (o_putf 2 6 30) := zS_putf (idx := 63) (by decide +kernel) rfl (by decide) rfl (by decide) rfl zin_2 tyX1_ok nmX1 rfl (by decide +kernel) zq_385
theorem zr_122_30 : zSnd 122 30 (o_ret) := zS_ret (by decide +kernel) (by decide +kernel)
theorem zT_122 (pc : Nat) : zSnd 122 pc (zc_122 pc) := by
  unfold zc_122
  exact (zSn_nd (zSn_nd (zSn_nd (zSn_nd (zSn_lf zr_122_0) (zSn_lf zr_122_1)) (zSn_nd (zSn_lf zr_122_2) (zSn_lf zr_122_3))) (zSn_nd (zSn_nd (zSn_lf zr_122_5) (zSn_lf zr_122_8)) (zSn_nd (zSn_lf zr_122_11) (zSn_lf zr_122_12)))) (zSn_nd (zSn_nd (zSn_nd (zSn_lf zr_122_14) (zSn_lf zr_122_17)) (zSn_nd (zSn_lf zr_122_18) (zSn_lf zr_122_19))) (zSn_nd (zSn_nd (zSn_lf zr_122_20) (zSn_lf zr_122_21)) (zSn_nd (zSn_lf zr_122_24) (zSn_nd (zSn_lf zr_122_27) (zSn_lf zr_122_30))))))
theorem zr_123_0 : zSnd 123 0 (o_aload 0 1) := zS_aload_n (i := 0) (by decide +kernel) rfl rfl
theorem zr_123_1 : zSnd 123 1 (o_aload 0 2) := zS_aload_n (i := 0) (by decide +kernel) rfl rfl
theorem zr_123_2 : zSnd 123 2 (o_const 0 3) := zS_iconst (by decide +kernel) rfl (by decide)
theorem zr_123_3 : zSnd 123 3 (o_const 5 4) := zS_iconst (by decide +kernel) rfl (by decide)
theorem zr_123_4 : zSnd 123 4 (o_callv 2 128 3 4 1 7) := zS_callV (n := 2) (idx := 48) (by decide +kernel) rfl rfl (by decide) rfl zq_375 zq_376 zq_377 (by decide +kernel) zMk_128 (by decide +kernel) (by decide +kernel) (by decide +kernel)
theorem zr_123_7 : zSnd 123 7 (o_putf 2 5 10) := zS_putf (idx := 52) (by decide +kernel) rfl (by decide) rfl (by decide) rfl zin_2 tyX1_ok nmX1 rfl (by decide +kernel) zq_378
theorem zr_123_10 : zSnd 123 10 (o_aload 0 11) := zS_aload_n (i := 0) (by decide +kernel) rfl rfl
theorem zr_123_11 : zSnd 123 11 (o_aload 0 12) := zS_aload_n (i := 0) (by decide +kernel) rfl rfl
theorem zr_123_12 : zSnd 123 12 (o_const 0 13) := zS_iconst (by decide +kernel) rfl (by decide)
theorem zr_123_13 : zSnd 123 13 (o_const 4 14) := zS_iconst (by decide +kernel) rfl (by decide)
theorem zr_123_14 : zSnd 123 14 (o_callv 2 128 3 4 1 17) := zS_callV (n := 2) (idx := 48) (by decide +kernel) rfl rfl (by decide) rfl zq_375 zq_376 zq_377 (by decide +kernel) zMk_128 (by decide +kernel) (by decide +kernel) (by decide +kernel)
theorem zr_123_17 : zSnd 123 17 (o_putf 2 6 20) := zS_putf (idx := 63) (by decide +kernel) rfl (by decide) rfl (by decide) rfl zin_2 tyX1_ok nmX1 rfl (by decide +kernel) zq_385
theorem zr_123_20 : zSnd 123 20 (o_aload 0 21) := zS_aload_n (i := 0) (by decide +kernel) rfl rfl
theorem zr_123_21 : zSnd 123 21 (o_const 44 23) := zS_bipush (by decide +kernel) rfl (by decide) (by decide)
theorem zr_123_23 : zSnd 123 23 (o_callv 2 127 2 2 0 26) := zS_callV (n := 1) (idx := 55) (by decide +kernel) rfl rfl (by decide) rfl zq_379 zq_380 zq_381 (by decide +kernel) zMk_127 (by decide +kernel) (by decide +kernel) (by decide +kernel)
theorem zr_123_26 : zSnd 123 26 (o_aload 0 27) := zS_aload_n (i := 0) (by decide +kernel) rfl rfl
theorem zr_123_27 : zSnd 123 27 (o_aload 0 28) := zS_aload_n (i := 0) (by decide +kernel) rfl rfl
theorem zr_123_28 : zSnd 123 28 (o_const 2 29) := zS_iconst (by decide +kernel) rfl (by decide)
theorem zr_123_29 : zSnd 123 29 (o_const 1 30) := zS_iconst (by decide +kernel) rfl (by decide)
theorem zr_123_30 : zSnd 123 30 (o_const 20 32) := zS_bipush (by decide +kernel) rfl (by decide) (by decide)
theorem zr_123_32 : zSnd 123 32 (o_callv 2 129 4 7 1 35) := zS_callV (n := 3) (idx := 59) (by decide +kernel) rfl rfl (by decide) rfl zq_382 zq_383 zq_384 (by decide +kernel) zMk_129 (by decide +kernel) (by decide +kernel) (by decide +kernel)
theorem zr_123_35 : zSnd 123 35 (o_putf 2 7 38) := zS_putf (idx := 66) (by decide +kernel) rfl (by decide) rfl (by decide) rfl zin_2 tyX1_ok nmX1 rfl (by decide +kernel) zq_386
theorem zr_123_38 : zSnd 123 38 (o_ret) := zS_ret (by decide +kernel) (by decide +kernel)
theorem zT_123 (pc : Nat) : zSnd 123 pc (zc_123 pc) := by
  unfold zc_123
  exact (zSn_nd (zSn_nd (zSn_nd (zSn_nd (zSn_lf zr_123_0) (zSn_lf zr_123_1)) (zSn_nd (zSn_lf zr_123_2) (zSn_nd (zSn_lf zr_123_3) (zSn_lf zr_123_4)))) (zSn_nd (zSn_nd (zSn_lf zr_123_7) (zSn_nd (zSn_lf zr_123_10) (zSn_lf zr_123_11))) (zSn_nd (zSn_lf zr_123_12) (zSn_nd (zSn_lf zr_123_13) (zSn_lf zr_123_14))))) (zSn_nd (zSn_nd (zSn_nd (zSn_lf zr_123_17) (zSn_nd (zSn_lf zr_123_20) (zSn_lf zr_123_21))) (zSn_nd (zSn_lf zr_123_23) (zSn_nd (zSn_lf zr_123_26) (zSn_lf zr_123_27)))) (zSn_nd (zSn_nd (zSn_lf zr_123_28) (zSn_nd (zSn_lf zr_123_29) (zSn_lf zr_123_30))) (zSn_nd (zSn_lf zr_123_32) (zSn_nd (zSn_lf zr_123_35) (zSn_lf zr_123_38))))))
theorem zr_124_0 : zSnd 124 0 (o_aload 0 1) := zS_aload_n (i := 0) (by decide +kernel) rfl rfl
theorem zr_124_1 : zSnd 124 1 (o_aload 0 2) := zS_aload_n (i := 0) (by decide +kernel) rfl rfl
theorem zr_124_2 : zSnd 124 2 (o_const 0 3) := zS_iconst (by decide +kernel) rfl (by decide)
theorem zr_124_3 : zSnd 124 3 (o_const 4 4) := zS_iconst (by decide +kernel) rfl (by decide)
theorem zr_124_4 : zSnd 124 4 (o_callv 2 128 3 4 1 7) := zS_callV (n := 2) (idx := 48) (by decide +kernel) rfl rfl (by decide) rfl zq_375 zq_376 zq_377 (by decide +kernel) zMk_128 (by decide +kernel) (by decide +kernel) (by decide +kernel)
theorem zr_124_7 : zSnd 124 7 (o_putf 2 5 10) := zS_putf (idx := 52) (by decide +kernel) rfl (by decide) rfl (by decide) rfl zin_2 tyX1_ok nmX1 rfl (by decide +kernel) zq_378
theorem zr_124_10 : zSnd 124 10 (o_aload 0 11) := zS_aload_n (i := 0) (by decide +kernel) rfl rfl
theorem zr_124_11 : zSnd 124 11 (o_const 44 13) := zS_bipush (by decide +kernel) rfl (by decide) (by decide)
theorem zr_124_13 : zSnd 124 13 (o_callv 2 127 2 2 0 16) := zS_callV (n := 1) (idx := 55) (by decide +kernel) rfl rfl (by decide) rfl zq_379 zq_380 zq_381 (by decide +kernel) zMk_127 (by decide +kernel) (by decide +kernel) (by decide +kernel)
theorem zr_124_16 : zSnd 124 16 (o_aload 0 17) := zS_aload_n (i := 0) (by decide +kernel) rfl rfl
theorem zr_124_17 : zSnd 124 17 (o_aload 0 18) := zS_aload_n (i := 0) (by decide +kernel) rfl rfl
theorem zr_124_18 : zSnd 124 18 (o_const 3 19) := zS_iconst (by decide +kernel) rfl (by decide)
theorem zr_124_19 : zSnd 124 19 (o_const 0 20) := zS_iconst (by decide +kernel) rfl (by decide)
theorem zr_124_20 : zSnd 124 20 (o_const 500 23) := zS_sipush (by decide +kernel) rfl (by decide) (by decide)
theorem zr_124_23 : zSnd 124 23 (o_callv 2 129 4 7 1 26) := zS_callV (n := 3) (idx := 59) (by decide +kernel) rfl rfl (by decide) rfl zq_382 zq_383 zq_384 (by decide +kernel) zMk_129 (by decide +kernel) (by decide +kernel) (by decide +kernel)
theorem zr_124_26 : zSnd 124 26 (o_putf 2 6 29) := zS_putf (idx := 63) (by decide +kernel) rfl (by decide) rfl (by decide) rfl zin_2 tyX1_ok nmX1 rfl (by decide +kernel) zq_385
theorem zr_124_29 : zSnd 124 29 (o_aload 0 30) := zS_aload_n (i := 0) (by decide +kernel) rfl rfl
theorem zr_124_30 : zSnd 124 30 (o_const 44 32) := zS_bipush (by decide +kernel) rfl (by decide) (by decide)
theorem zr_124_32 : zSnd 124 32 (o_callv 2 127 2 2 0 35) := zS_callV (n := 1) (idx := 55) (by decide +kernel) rfl rfl (by decide) rfl zq_379 zq_380 zq_381 (by decide +kernel) zMk_127 (by decide +kernel) (by decide +kernel) (by decide +kernel)
theorem zr_124_35 : zSnd 124 35 (o_aload 0 36) := zS_aload_n (i := 0) (by decide +kernel) rfl rfl
theorem zr_124_36 : zSnd 124 36 (o_aload 0 37) := zS_aload_n (i := 0) (by decide +kernel) rfl rfl
theorem zr_124_37 : zSnd 124 37 (o_const 2 38) := zS_iconst (by decide +kernel) rfl (by decide)
theorem zr_124_38 : zSnd 124 38 (o_const 1 39) := zS_iconst (by decide +kernel) rfl (by decide)
theorem zr_124_39 : zSnd 124 39 (o_const 50 41) := zS_bipush (by decide +kernel) rfl (by decide) (by decide)
theorem zr_124_41 : zSnd 124 41 (o_callv 2 129 4 7 1 44) := zS_callV (n := 3) (idx := 59) (by decide +kernel) rfl rfl (by decide) rfl zq_382 zq_383 zq_384 (by decide +kernel) zMk_129 (by decide +kernel) (by decide +kernel) (by decide +kernel)
theorem zr_124_44 : zSnd 124 44 (o_putf 2 7 47) := zS_putf (idx := 66) (by decide +kernel) rfl (by decide) rfl (by decide) rfl zin_2 tyX1_ok nmX1 rfl (by decide +kernel) zq_386
theorem zr_124_47 : zSnd 124 47 (o_ret) := zS_ret (by decide +kernel) (by decide +kernel)
theorem zT_124 (pc : Nat) : zSnd 124 pc (zc_124 pc) := by
  unfold zc_124
  exact (zSn_nd (zSn_nd (zSn_nd (zSn_nd (zSn_lf zr_124_0) (zSn_nd (zSn_lf zr_124_1) (zSn_lf zr_124_2))) (zSn_nd (zSn_lf zr_124_3) (zSn_nd (zSn_lf zr_124_4) (zSn_lf zr_124_7)))) (zSn_nd (zSn_nd (zSn_lf zr_124_10) (zSn_nd (zSn_lf zr_124_11) (zSn_lf zr_124_13))) (zSn_nd (zSn_nd (zSn_lf zr_124_16) (zSn_lf zr_124_17)) (zSn_nd (zSn_lf zr_124_18) (zSn_lf zr_124_19))))) (zSn_nd (zSn_nd (zSn_nd (zSn_lf zr_124_20) (zSn_nd (zSn_lf zr_124_23) (zSn_lf zr_124_26))) (zSn_nd (zSn_nd (zSn_lf zr_124_29) (zSn_lf zr_124_30)) (zSn_nd (zSn_lf zr_124_32) (zSn_lf zr_124_35)))) (zSn_nd (zSn_nd (zSn_lf zr_124_36) (zSn_nd (zSn_lf zr_124_37) (zSn_lf zr_124_38))) (zSn_nd (zSn_nd (zSn_lf zr_124_39) (zSn_lf zr_124_41)) (zSn_nd (zSn_lf zr_124_44) (zSn_lf zr_124_47))))))
theorem zr_125_0 : zSnd 125 0 (o_aload 0 1) := zS_aload_n (i := 0) (by decide +kernel) rfl rfl
theorem zr_125_1 : zSnd 125 1 (o_getf 2 2 4) := zS_getf (idx := 19) (by decide +kernel) rfl (by decide) rfl (by decide) rfl zin_2 zq_357
theorem zr_125_4 : zSnd 125 4 (o_iflt 39 7) := zS_iflt (by decide +kernel : decode (zmB 125) 4 = .ok (.ifCond .lt 35, 3)) rfl (by decide)
theorem zr_125_7 : zSnd 125 7 (o_aload 0 8) := zS_aload_n (i := 0) (by decide +kernel) rfl rfl
theorem zr_125_8 : zSnd 125 8 (o_getf 2 2 11) := zS_getf (idx := 19) (by decide +kernel) rfl (by decide) rfl (by decide) rfl zin_2 zq_357
theorem zr_125_11 : zSnd 125 11 (o_aload 0 12) := zS_aload_n (i := 0) (by decide +kernel) rfl rfl
theorem zr_125_12 : zSnd 125 12 (o_getf 2 1 15) := zS_getf (idx := 29) (by decide +kernel) rfl (by decide) rfl (by decide) rfl zin_2 zq_361
theorem zr_125_15 : zSnd 125 15 (o_cge 39 18) := zS_cge (by decide +kernel : decode (zmB 125) 15 = .ok (.if_icmp .ge 24, 3)) rfl (by decide)
theorem zr_125_18 : zSnd 125 18 (o_aload 0 19) := zS_aload_n (i := 0) (by decide +kernel) rfl rfl
theorem zr_125_19 : zSnd 125 19 (o_getf 2 2 22) := zS_getf (idx := 19) (by decide +kernel) rfl (by decide) rfl (by decide) rfl zin_2 zq_357
theorem zr_125_22 : zSnd 125 22 (o_const 100 24) := zS_bipush (by decide +kernel) rfl (by decide) (by decide)
theorem zr_125_24 : zSnd 125 24 (o_cge 39 27) := zS_cge (by decide +kernel : decode (zmB 125) 24 = .ok (.if_icmp .ge 15, 3)) rfl (by decide)
theorem zr_125_27 : zSnd 125 27 (o_aload 0 28) := zS_aload_n (i := 0) (by decide +kernel) rfl rfl
theorem zr_125_28 : zSnd 125 28 (o_getf 2 0 31) := zS_getf (idx := 9) (by decide +kernel) rfl (by decide) rfl (by decide) rfl zin_2 zq_387
theorem zr_125_31 : zSnd 125 31 (o_aload 0 32) := zS_aload_n (i := 0) (by decide +kernel) rfl rfl
theorem zr_125_32 : zSnd 125 32 (o_getf 2 2 35) := zS_getf (idx := 19) (by decide +kernel) rfl (by decide) rfl (by decide) rfl zin_2 zq_357
theorem zr_125_35 : zSnd 125 35 (o_iald 36) := zS_iald (by decide +kernel) rfl
theorem zr_125_36 : zSnd 125 36 (o_goto 40) := zS_goto (by decide +kernel : decode (zmB 125) 36 = .ok (.goto 4, 3)) (by decide)
theorem zr_125_39 : zSnd 125 39 (o_const (-1) 40) := zS_iconst (by decide +kernel) rfl (by decide)
theorem zr_125_40 : zSnd 125 40 (o_iret) := zS_iret (by decide +kernel) (by decide +kernel)
theorem zT_125 (pc : Nat) : zSnd 125 pc (zc_125 pc) := by
  unfold zc_125
  exact (zSn_nd (zSn_nd (zSn_nd (zSn_nd (zSn_lf zr_125_0) (zSn_lf zr_125_1)) (zSn_nd (zSn_lf zr_125_4) (zSn_nd (zSn_lf zr_125_7) (zSn_lf zr_125_8)))) (zSn_nd (zSn_nd (zSn_lf zr_125_11) (zSn_lf zr_125_12)) (zSn_nd (zSn_lf zr_125_15) (zSn_nd (zSn_lf zr_125_18) (zSn_lf zr_125_19))))) (zSn_nd (zSn_nd (zSn_nd (zSn_lf zr_125_22) (zSn_lf zr_125_24)) (zSn_nd (zSn_lf zr_125_27) (zSn_nd (zSn_lf zr_125_28) (zSn_lf zr_125_31)))) (zSn_nd (zSn_nd (zSn_lf zr_125_32) (zSn_lf zr_125_35)) (zSn_nd (zSn_lf zr_125_36) (zSn_nd (zSn_lf zr_125_39) (zSn_lf zr_125_40))))))
theorem zr_126_0 : zSnd 126 0 (o_aload 0 1) := zS_aload_n (i := 0) (by decide +kernel) rfl rfl
theorem zr_126_1 : zSnd 126 1 (o_callv 2 125 1 1 1 4) := zS_callV (n := 0) (idx := 32) (by decide +kernel) rfl rfl (by decide) rfl zq_362 zq_363 zq_364 (by decide +kernel) zMk_125 (by decide +kernel) (by decide +kernel) (by decide +kernel)
theorem zr_126_4 : zSnd 126 4 (o_const 48 6) := zS_bipush (by decide +kernel) rfl (by decide) (by decide)
theorem zr_126_6 : zSnd 126 6 (o_const 57 8) := zS_bipush (by decide +kernel) rfl (by decide) (by decide)
theorem zr_126_8 : zSnd 126 8 (o_call 33 3 3 1 11) := zS_callSN (idx := 69) (by decide +kernel) rfl zq_388 zq_1 (by decide +kernel) zMk_33 (by decide +kernel) (by decide +kernel) (by decide +kernel)
theorem zr_126_11 : zSnd 126 11 (o_zret) := zS_zret (by decide +kernel) (by decide +kernel)
theorem zT_126 (pc : Nat) : zSnd 126 pc (zc_126 pc) := by
  unfold zc_126
  exact (zSn_nd (zSn_nd (zSn_lf zr_126_0) (zSn_nd (zSn_lf zr_126_1) (zSn_lf zr_126_4))) (zSn_nd (zSn_lf zr_126_6) (zSn_nd (zSn_lf zr_126_8) (zSn_lf zr_126_11))))
theorem zr_127_0 : zSnd 127 0 (o_aload 0 1) := zS_aload_n (i := 0) (by decide +kernel) rfl rfl
theorem zr_127_1 : zSnd 127 1 (o_getf 2 3 4) := zS_getf (idx := 15) (by decide +kernel) rfl (by decide) rfl (by decide) rfl zin_2 zq_358
theorem zr_127_4 : zSnd 127 4 (o_const (-1) 5) := zS_iconst (by decide +kernel) rfl (by decide)
theorem zr_127_5 : zSnd 127 5 (o_ceq 9 8) := zS_ceq (by decide +kernel : decode (zmB 127) 5 = .ok (.if_icmp .eq 4, 3)) rfl (by decide)
theorem zr_127_8 : zSnd 127 8 (o_ret) := zS_ret (by decide +kernel) (by decide +kernel)
theorem zr_127_9 : zSnd 127 9 (o_aload 0 10) := zS_aload_n (i := 0) (by decide +kernel) rfl rfl
theorem zr_127_10 : zSnd 127 10 (o_callv 2 125 1 1 1 13) := zS_callV (n := 0) (idx := 32) (by decide +kernel) rfl rfl (by decide) rfl zq_362 zq_363 zq_364 (by decide +kernel) zMk_125 (by decide +kernel) (by decide +kernel) (by decide +kernel)
theorem zr_127_13 : zSnd 127 13 (o_iload 1 14) := zS_iload_n (i := 1) (by decide +kernel) rfl rfl
theorem zr_127_14 : zSnd 127 14 (o_ceq 26 17) := zS_ceq (by decide +kernel : decode (zmB 127) 14 = .ok (.if_icmp .eq 12, 3)) rfl (by decide)
theorem zr_127_17 : zSnd 127 17 (o_aload 0 18) := zS_aload_n (i := 0) (by decide +kernel) rfl rfl
theorem zr_127_18 : zSnd 127 18 (o_aload 0 19) := zS_aload_n (i := 0) (by decide +kernel) rfl rfl
theorem zr_127_19 : zSnd 127 19 (o_getf 2 2 22) := zS_getf (idx := 19) (by decide +kernel) rfl (by decide) rfl (by decide) rfl zin_2 zq_357
theorem zr_127_22 : zSnd 127 22 (o_putf 2 3 25) := zS_putf (idx := 15) (by decide +kernel) rfl (by decide) rfl (by decide) rfl zin_2 tyX1_ok nmX1 rfl (by decide +kernel) zq_358
theorem zr_127_25 : zSnd 127 25 (o_ret) := zS_ret (by decide +kernel) (by decide +kernel)
theorem zr_127_26 : zSnd 127 26 (o_aload 0 27) := zS_aload_n (i := 0) (by decide +kernel) rfl rfl
theorem zr_127_27 : zSnd 127 27 (o_dup 28) := zS_dup (by decide +kernel) rfl
theorem zr_127_28 : zSnd 127 28 (o_getf 2 2 31) := zS_getf (idx := 19) (by decide +kernel) rfl (by decide) rfl (by decide) rfl zin_2 zq_357
theorem zr_127_31 : zSnd 127 31 (o_const 1 32) := zS_iconst (by decide +kernel) rfl (by decide)
theorem zr_127_32 : zSnd 127 32 (o_iadd 33) := zS_iadd (by decide +kernel) rfl
theorem zr_127_33 : zSnd 127 33 (o_putf 2 2 36) := zS_putf (idx := 19) (by decide +kernel) rfl (by decide) rfl (by decide) rfl zin_2 tyX1_ok nmX1 rfl (by decide +kernel) zq_357
theorem zr_127_36 : zSnd 127 36 (o_ret) := zS_ret (by decide +kernel) (by decide +kernel)
theorem zT_127 (pc : Nat) : zSnd 127 pc (zc_127 pc) := by
  unfold zc_127
  exact (zSn_nd (zSn_nd (zSn_nd (zSn_nd (zSn_lf zr_127_0) (zSn_lf zr_127_1)) (zSn_nd (zSn_lf zr_127_4) (zSn_nd (zSn_lf zr_127_5) (zSn_lf zr_127_8)))) (zSn_nd (zSn_nd (zSn_lf zr_127_9) (zSn_lf zr_127_10)) (zSn_nd (zSn_lf zr_127_13) (zSn_nd (zSn_lf zr_127_14) (zSn_lf zr_127_17))))) (zSn_nd (zSn_nd (zSn_nd (zSn_lf zr_127_18) (zSn_lf zr_127_19)) (zSn_nd (zSn_lf zr_127_22) (zSn_nd (zSn_lf zr_127_25) (zSn_lf zr_127_26)))) (zSn_nd (zSn_nd (zSn_lf zr_127_27) (zSn_nd (zSn_lf zr_127_28) (zSn_lf zr_127_31))) (zSn_nd (zSn_lf zr_127_32) (zSn_nd (zSn_lf zr_127_33) (zSn_lf zr_127_36))))))
theorem zr_128_0 : zSnd 128 0 (o_aload 0 1) := zS_aload_n (i := 0) (by decide +kernel) rfl rfl
theorem zr_128_1 : zSnd 128 1 (o_getf 2 3 4) := zS_getf (idx := 15) (by decide +kernel) rfl (by decide) rfl (by decide) rfl zin_2 zq_358
theorem zr_128_4 : zSnd 128 4 (o_const (-1) 5) := zS_iconst (by decide +kernel) rfl (by decide)
theorem zr_128_5 : zSnd 128 5 (o_ceq 10 8) := zS_ceq (by decide +kernel : decode (zmB 128) 5 = .ok (.if_icmp .eq 5, 3)) rfl (by decide)
theorem zr_128_8 : zSnd 128 8 (o_const 0 9) := zS_iconst (by decide +kernel) rfl (by decide)
theorem zr_128_9 : zSnd 128 9 (o_iret) := zS_iret (by decide +kernel) (by decide +kernel)
theorem zr_128_10 : zSnd 128 10 (o_aload 0 11) := zS_aload_n (i := 0) (by decide +kernel) rfl rfl
theorem zr_128_11 : zSnd 128 11 (o_callv 2 125 1 1 1 14) := zS_callV (n := 0) (idx := 32) (by decide +kernel) rfl rfl (by decide) rfl zq_362 zq_363 zq_364 (by decide +kernel) zMk_125 (by decide +kernel) (by decide +kernel) (by decide +kernel)
theorem zr_128_14 : zSnd 128 14 (o_const 48 16) := zS_bipush (by decide +kernel) rfl (by decide) (by decide)
theorem zr_128_16 : zSnd 128 16 (o_isub 17) := zS_isub (by decide +kernel) rfl
theorem zr_128_17 : zSnd 128 17 (o_istore 3 18) := zS_istore_n (i := 3) (by decide +kernel) rfl rfl (by decide +kernel)
theorem zr_128_18 : zSnd 128 18 (o_iload 3 19) := zS_iload_n (i := 3) (by decide +kernel) rfl rfl
theorem zr_128_19 : zSnd 128 19 (o_iload 1 20) := zS_iload_n (i := 1) (by decide +kernel) rfl rfl
theorem zr_128_20 : zSnd 128 20 (o_iload 2 21) := zS_iload_n (i := 2) (by decide +kernel) rfl rfl
theorem zr_128_21 : zSnd 128 21 (o_call 33 3 3 1 24) := zS_callSN (idx := 69) (by decide +kernel) rfl zq_388 zq_1 (by decide +kernel) zMk_33 (by decide +kernel) (by decide +kernel) (by decide +kernel)
theorem zr_128_24 : zSnd 128 24 (o_ifne 37 27) := zS_ifne (by decide +kernel : decode (zmB 128) 24 = .ok (.ifCond .ne 13, 3)) rfl (by decide)
theorem zr_128_27 : zSnd 128 27 (o_aload 0 28) := zS_aload_n (i := 0) (by decide +kernel) rfl rfl
theorem zr_128_28 : zSnd 128 28 (o_aload 0 29) := zS_aload_n (i := 0) (by decide +kernel) rfl rfl
theorem zr_128_29 : zSnd 128 29 (o_getf 2 2 32) := zS_getf (idx := 19) (by decide +kernel) rfl (by decide) rfl (by decide) rfl zin_2 zq_357
theorem zr_128_32 : zSnd 128 32 (o_putf 2 3 35) := zS_putf (idx := 15) (by decide +kernel) rfl (by decide) rfl (by decide) rfl zin_2 tyX1_ok nmX1 rfl (by decide +kernel) zq_358
theorem zr_128_35 : zSnd 128 35 (o_const 0 36) := zS_iconst (by decide +kernel) rfl (by decide)
theorem zr_128_36 : zSnd 128 36 (o_iret) := zS_iret (by decide +kernel) (by decide +kernel)
theorem zr_128_37 : zSnd 128 37 (o_aload 0 38) := zS_aload_n (i := 0) (by decide +kernel) rfl rfl
theorem zr_128_38 : zSnd 128 38 (o_dup 39) := zS_dup (by decide +kernel) rfl
theorem zr_128_39 : zSnd 128 39 (o_getf 2 2 42) := zS_getf (idx := 19) (by decide +kernel) rfl (by decide) rfl (by decide) rfl zin_2 zq_357
theorem zr_128_42 : zSnd 128 42 (o_const 1 43) := zS_iconst (by decide +kernel) rfl (by decide)
theorem zr_128_43 : zSnd 128 43 (o_iadd 44) := zS_iadd (by decide +kernel) rfl
theorem zr_128_44 : zSnd 128 44 (o_putf 2 2 47) := zS_putf (idx := 19) (by decide +kernel) rfl (by decide) rfl (by decide) rfl zin_2 tyX1_ok nmX1 rfl (by decide +kernel) zq_357
theorem zr_128_47 : zSnd 128 47 (o_iload 3 48) := zS_iload_n (i := 3) (by decide +kernel) rfl rfl
theorem zr_128_48 : zSnd 128 48 (o_iret) := zS_iret (by decide +kernel) (by decide +kernel)
theorem zT_128 (pc : Nat) : zSnd 128 pc (zc_128 pc) := by
  unfold zc_128
  exact (zSn_nd (zSn_nd (zSn_nd (zSn_nd (zSn_lf zr_128_0) (zSn_nd (zSn_lf zr_128_1) (zSn_lf zr_128_4))) (zSn_nd (zSn_nd (zSn_lf zr_128_5) (zSn_lf zr_128_8)) (zSn_nd (zSn_lf zr_128_9) (zSn_lf zr_128_10)))) (zSn_nd (zSn_nd (zSn_nd (zSn_lf zr_128_11) (zSn_lf zr_128_14)) (zSn_nd (zSn_lf zr_128_16) (zSn_lf zr_128_17))) (zSn_nd (zSn_nd (zSn_lf zr_128_18) (zSn_lf zr_128_19)) (zSn_nd (zSn_lf zr_128_20) (zSn_lf zr_128_21))))) (zSn_nd (zSn_nd (zSn_nd (zSn_lf zr_128_24) (zSn_nd (zSn_lf zr_128_27) (zSn_lf zr_128_28))) (zSn_nd (zSn_nd (zSn_lf zr_128_29) (zSn_lf zr_128_32)) (zSn_nd (zSn_lf zr_128_35) (zSn_lf zr_128_36)))) (zSn_nd (zSn_nd (zSn_nd (zSn_lf zr_128_37) (zSn_lf zr_128_38)) (zSn_nd (zSn_lf zr_128_39) (zSn_lf zr_128_42))) (zSn_nd (zSn_nd (zSn_lf zr_128_43) (zSn_lf zr_128_44)) (zSn_nd (zSn_lf zr_128_47) (zSn_lf zr_128_48))))))
theorem zr_129_0 : zSnd 129 0 (o_aload 0 1) := zS_aload_n (i := 0) (by decide +kernel) rfl rfl
theorem zr_129_1 : zSnd 129 1 (o_getf 2 3 4) := zS_getf (idx := 15) (by decide +kernel) rfl (by decide) rfl (by decide) rfl zin_2 zq_358
theorem zr_129_4 : zSnd 129 4 (o_const (-1) 5) := zS_iconst (by decide +kernel) rfl (by decide)
theorem zr_129_5 : zSnd 129 5 (o_ceq 10 8) := zS_ceq (by decide +kernel : decode (zmB 129) 5 = .ok (.if_icmp .eq 5, 3)) rfl (by decide)
theorem zr_129_8 : zSnd 129 8 (o_const 0 9) := zS_iconst (by decide +kernel) rfl (by decide)
theorem zr_129_9 : zSnd 129 9 (o_iret) := zS_iret (by decide +kernel) (by decide +kernel)
theorem zr_129_10 : zSnd 129 10 (o_aload 0 11) := zS_aload_n (i := 0) (by decide +kernel) rfl rfl
theorem zr_129_11 : zSnd 129 11 (o_getf 2 2 14) := zS_getf (idx := 19) (by decide +kernel) rfl (by decide) rfl (by decide) rfl zin_2 zq_357
theorem zr_129_14 : zSnd 129 14 (o_istore 4 16) := zS_istore (by decide +kernel) rfl (by decide +kernel)
theorem zr_129_16 : zSnd 129 16 (o_const 0 17) := zS_iconst (by decide +kernel) rfl (by decide)
theorem zr_129_17 : zSnd 129 17 (o_istore 5 19) := zS_istore (by decide +kernel) rfl (by decide +kernel)
theorem zr_129_19 : zSnd 129 19 (o_const 0 20) := zS_iconst (by decide +kernel) rfl (by decide)
theorem zr_129_20 : zSnd 129 20 (o_istore 6 22) := zS_istore (by decide +kernel) rfl (by decide +kernel)
theorem zr_129_22 : zSnd 129 22 (o_iload 6 24) := zS_iload (by decide +kernel) rfl
theorem zr_129_24 : zSnd 129 24 (o_iload 1 25) := zS_iload_n (i := 1) (by decide +kernel) rfl rfl
theorem zr_129_25 : zSnd 129 25 (o_cge 66 28) := zS_cge (by decide +kernel : decode (zmB 129) 25 = .ok (.if_icmp .ge 41, 3)) rfl (by decide)
theorem zr_129_28 : zSnd 129 28 (o_aload 0 29) := zS_aload_n (i := 0) (by decide +kernel) rfl rfl
theorem zr_129_29 : zSnd 129 29 (o_callv 2 126 1 1 1 32) := zS_callV (n := 0) (idx := 73) (by decide +kernel) rfl rfl (by decide) rfl zq_389 zq_390 zq_391 (by decide +kernel) zMk_126 (by decide +kernel) (by decide +kernel) (by decide +kernel)
theorem zr_129_32 : zSnd 129 32 (o_ifeq 66 35) := zS_ifeq (by decide +kernel : decode (zmB 129) 32 = .ok (.ifCond .eq 34, 3)) rfl (by decide)
theorem zr_129_35 : zSnd 129 35 (o_const 10 37) := zS_bipush (by decide +kernel) rfl (by decide) (by decide)
theorem zr_129_37 : zSnd 129 37 (o_iload 5 39) := zS_iload (by decide +kernel) rfl
theorem zr_129_39 : zSnd 129 39 (o_imul 40) := zS_imul (by decide +kernel) rfl
theorem zr_129_40 : zSnd 129 40 (o_aload 0 41) := zS_aload_n (i := 0) (by decide +kernel) rfl rfl
theorem zr_129_41 : zSnd 129 41 (o_callv 2 125 1 1 1 44) := zS_callV (n := 0) (idx := 32) (by decide +kernel) rfl rfl (by decide) rfl zq_362 zq_363 zq_364 (by decide +kernel) zMk_125 (by decide +kernel) (by decide +kernel) (by decide +kernel)
theorem zr_129_44 : zSnd 129 44 (o_iadd 45) := zS_iadd (by decide +kernel) rfl
theorem zr_129_45 : zSnd 129 45 (o_const 48 47) := zS_bipush (by decide +kernel) rfl (by decide) (by decide)
theorem zr_129_47 : zSnd 129 47 (o_isub 48) := zS_isub (by decide +kernel) rfl
theorem zr_129_48 : zSnd 129 48 (o_istore 5 50) := zS_istore (by decide +kernel) rfl (by decide +kernel)
theorem zr_129_50 : zSnd 129 50 (o_aload 0 51) := zS_aload_n (i := 0) (by decide +kernel) rfl rfl
theorem zr_129_51 : zSnd 129 51 (o_dup 52) := zS_dup (by decide +kernel) rfl
theorem zr_129_52 : zSnd 129 52 (o_getf 2 2 55) := zS_getf (idx := 19) (by decide +kernel) rfl (by decide) rfl (by decide) rfl zin_2 zq_357
theorem zr_129_55 : zSnd 129 55 (o_const 1 56) := zS_iconst (by decide +kernel) rfl (by decide)
theorem zr_129_56 : zSnd 129 56 (o_iadd 57) := zS_iadd (by decide +kernel) rfl
theorem zr_129_57 : zSnd 129 57 (o_putf 2 2 60) := zS_putf (idx := 19) (by decide +kernel) rfl (by decide) rfl (by decide) rfl zin_2 tyX1_ok nmX1 rfl (by decide +kernel) zq_357
theorem zr_129_60 : zSnd 129 60 (o_iinc 6 1 63) := zS_iinc (by decide +kernel) rfl (by decide +kernel)
theorem zr_129_63 : zSnd 129 63 (o_goto 22) := zS_goto (by decide +kernel : decode (zmB 129) 63 = .ok (.goto (-41), 3)) (by decide)
theorem zr_129_66 : zSnd 129 66 (o_aload 0 67) := zS_aload_n (i := 0) (by decide +kernel) rfl rfl
theorem zr_129_67 : zSnd 129 67 (o_getf 2 2 70) := zS_getf (idx := 19) (by decide +kernel) rfl (by decide) rfl (by decide) rfl zin_2 zq_357
theorem zr_129_70 : zSnd 129 70 (o_iload 4 72) := zS_iload (by decide +kernel) rfl
theorem zr_129_72 : zSnd 129 72 (o_ceq 82 75) := zS_ceq (by decide +kernel : decode (zmB 129) 72 = .ok (.if_icmp .eq 10, 3)) rfl (by decide)
theorem zr_129_75 : zSnd 129 75 (o_aload 0 76) := zS_aload_n (i := 0) (by decide +kernel) rfl rfl
theorem zr_129_76 : zSnd 129 76 (o_callv 2 126 1 1 1 79) := zS_callV (n := 0) (idx := 73) (by decide +kernel) rfl rfl (by decide) rfl zq_389 zq_390 zq_391 (by decide +kernel) zMk_126 (by decide +kernel) (by decide +kernel) (by decide +kernel)
theorem zr_129_79 : zSnd 129 79 (o_ifeq 93 82) := zS_ifeq (by decide +kernel : decode (zmB 129) 79 = .ok (.ifCond .eq 14, 3)) rfl (by decide)
theorem zr_129_82 : zSnd 129 82 (o_aload 0 83) := zS_aload_n (i := 0) (by decide +kernel) rfl rfl
theorem zr_129_83 : zSnd 129 83 (o_aload 0 84) := zS_aload_n (i := 0) (by decide +kernel) rfl rfl
theorem zr_129_84 : zSnd 129 84 (o_getf 2 2 87) := zS_getf (idx := 19) (by decide +kernel) rfl (by decide) rfl (by decide) rfl zin_2 zq_357
theorem zr_129_87 : zSnd 129 87 (o_putf 2 3 90) := zS_putf (idx := 15) (by decide +kernel) rfl (by decide) rfl (by decide) rfl zin_2 tyX1_ok nmX1 rfl (by decide +kernel) zq_358
theorem zr_129_90 : zSnd 129 90 (o_goto 109) := zS_goto (by decide +kernel : decode (zmB 129) 90 = .ok (.goto 19, 3)) (by decide)
theorem zr_129_93 : zSnd 129 93 (o_iload 5 95) := zS_iload (by decide +kernel) rfl
theorem zr_129_95 : zSnd 129 95 (o_iload 2 96) := zS_iload_n (i := 2) (by decide +kernel) rfl rfl
theorem zr_129_96 : zSnd 129 96 (o_iload 3 97) := zS_iload_n (i := 3) (by decide +kernel) rfl rfl
theorem zr_129_97 : zSnd 129 97 (o_call 33 3 3 1 100) := zS_callSN (idx := 69) (by decide +kernel) rfl zq_388 zq_1 (by decide +kernel) zMk_33 (by decide +kernel) (by decide +kernel) (by decide +kernel)
theorem zr_129_100 : zSnd 129 100 (o_ifne 109 103) := zS_ifne (by decide +kernel : decode (zmB 129) 100 = .ok (.ifCond .ne 9, 3)) rfl (by decide)
theorem zr_129_103 : zSnd 129 103 (o_aload 0 104) := zS_aload_n (i := 0) (by decide +kernel) rfl rfl
theorem zr_129_104 : zSnd 129 104 (o_iload 4 106) := zS_iload (by decide +kernel) rfl
theorem zr_129_106 : zSnd 129 106 (o_putf 2 3 109) := zS_putf (idx := 15) (by decide +kernel) rfl (by decide) rfl (by decide) rfl zin_2 tyX1_ok nmX1 rfl (by decide +kernel) zq_358
theorem zr_129_109 : zSnd 129 109 (o_iload 5 111) := zS_iload (by decide +kernel) rfl
theorem zr_129_111 : zSnd 129 111 (o_iret) := zS_iret (by decide +kernel) (by decide +kernel)
theorem zT_129 (pc : Nat) : zSnd 129 pc (zc_129 pc) := by
  unfold zc_129
  exact (zSn_nd (zSn_nd (zSn_nd (zSn_nd (zSn_nd (zSn_lf zr_129_0) (zSn_nd (zSn_lf zr_129_1) (zSn_lf zr_129_4))) (zSn_nd (zSn_nd (zSn_lf zr_129_5) (zSn_lf zr_129_8)) (zSn_nd (zSn_lf zr_129_9) (zSn_lf zr_129_10)))) (zSn_nd (zSn_nd (zSn_lf zr_129_11) (zSn_nd (zSn_lf zr_129_14) (zSn_lf zr_129_16))) (zSn_nd (zSn_nd (zSn_lf zr_129_17) (zSn_lf zr_129_19)) (zSn_nd (zSn_lf zr_129_20) (zSn_lf zr_129_22))))) (zSn_nd (zSn_nd (zSn_nd (zSn_lf zr_129_24) (zSn_nd (zSn_lf zr_129_25) (zSn_lf zr_129_28))) (zSn_nd (zSn_nd (zSn_lf zr_129_29) (zSn_lf zr_129_32)) (zSn_nd (zSn_lf zr_129_35) (zSn_lf zr_129_37)))) (zSn_nd (zSn_nd (zSn_nd (zSn_lf zr_129_39) (zSn_lf zr_129_40)) (zSn_nd (zSn_lf zr_129_41) (zSn_lf zr_129_44))) (zSn_nd (zSn_nd (zSn_lf zr_129_45) (zSn_lf zr_129_47)) (zSn_nd (zSn_lf zr_129_48) (zSn_lf zr_129_50)))))) (zSn_nd (zSn_nd (zSn_nd (zSn_nd (zSn_lf zr_129_51) (zSn_nd (zSn_lf zr_129_52) (zSn_lf zr_129_55))) (zSn_nd (zSn_nd (zSn_lf zr_129_56) (zSn_lf zr_129_57)) (zSn_nd (zSn_lf zr_129_60) (zSn_lf zr_129_63)))) (zSn_nd (zSn_nd (zSn_lf zr_129_66) (zSn_nd (zSn_lf zr_129_67) (zSn_lf zr_129_70))) (zSn_nd (zSn_nd (zSn_lf zr_129_72) (zSn_lf zr_129_75)) (zSn_nd (zSn_lf zr_129_76) (zSn_lf zr_129_79))))) (zSn_nd (zSn_nd (zSn_nd (zSn_lf zr_129_82) (zSn_nd (zSn_lf zr_129_83) (zSn_lf zr_129_84))) (zSn_nd (zSn_nd (zSn_lf zr_129_87) (zSn_lf zr_129_90)) (zSn_nd (zSn_lf zr_129_93) (zSn_lf zr_129_95)))) (zSn_nd (zSn_nd (zSn_nd (zSn_lf zr_129_96) (zSn_lf zr_129_97)) (zSn_nd (zSn_lf zr_129_100) (zSn_lf zr_129_103))) (zSn_nd (zSn_nd (zSn_lf zr_129_104) (zSn_lf zr_129_106)) (zSn_nd (zSn_lf zr_129_109) (zSn_lf zr_129_111)))))))
theorem zr_130_0 : zSnd 130 0 (o_aload 0 1) := zS_aload_n (i := 0) (by decide +kernel) rfl rfl
theorem zr_130_1 : zSnd 130 1 (o_getf 3 1 4) := zS_getf (idx := 18) (by decide +kernel) rfl (by decide) rfl (by decide) rfl zin_3 zq_392
theorem zr_130_4 : zSnd 130 4 (o_const 0 5) := zS_iconst (by decide +kernel) rfl (by decide)
theorem zr_130_5 : zSnd 130 5 (o_aload 1 6) := zS_aload_n (i := 1) (by decide +kernel) rfl rfl
theorem zr_130_6 : zSnd 130 6 (o_const 0 7) := zS_iconst (by decide +kernel) rfl (by decide)
theorem zr_130_7 : zSnd 130 7 (o_const 30 9) := zS_bipush (by decide +kernel) rfl (by decide) (by decide)
theorem zr_130_9 : zSnd 130 9 (o_copy 12) := zS_copy (idx := 28) (by decide +kernel) rfl zq_393 zq_394 zq_395 zq_396 (by decide +kernel)
theorem zr_130_12 : zSnd 130 12 (o_ret) := zS_ret (by decide +kernel) (by decide +kernel)
theorem zT_130 (pc : Nat) : zSnd 130 pc (zc_130 pc) := by
  unfold zc_130
  exact (zSn_nd (zSn_nd (zSn_nd (zSn_lf zr_130_0) (zSn_lf zr_130_1)) (zSn_nd (zSn_lf zr_130_4) (zSn_lf zr_130_5))) (zSn_nd (zSn_nd (zSn_lf zr_130_6) (zSn_lf zr_130_7)) (zSn_nd (zSn_lf zr_130_9) (zSn_lf zr_130_12))))
theorem zr_131_0 : zSnd 131 0 (o_aload 0 1) := zS_aload_n (i := 0) (by decide +kernel) rfl rfl
theorem zr_131_1 : zSnd 131 1 (o_getf 3 0 4) := zS_getf (idx := 12) (by decide +kernel) rfl (by decide) rfl (by decide) rfl zin_3 zq_397
theorem zr_131_4 : zSnd 131 4 (o_aload 0 5) := zS_aload_n (i := 0) (by decide +kernel) rfl rfl
theorem zr_131_5 : zSnd 131 5 (o_getf 3 1 8) := zS_getf (idx := 18) (by decide +kernel) rfl (by decide) rfl (by decide) rfl zin_3 zq_392
theorem zr_131_8 : zSnd 131 8 (o_callv 4 161 2 4 1 11) := zS_callVN (n := 1) (idx := 34) (by decide +kernel) rfl rfl (by decide) rfl zq_398 zq_51 zq_52 (by decide +kernel) zMk_161 (by decide +kernel) (by decide +kernel) (by decide +kernel)
theorem zr_131_11 : zSnd 131 11 (o_iret) := zS_iret (by decide +kernel) (by decide +kernel)
theorem zT_131 (pc : Nat) : zSnd 131 pc (zc_131 pc) := by
  unfold zc_131
  exact (zSn_nd (zSn_nd (zSn_lf zr_131_0) (zSn_nd (zSn_lf zr_131_1) (zSn_lf zr_131_4))) (zSn_nd (zSn_lf zr_131_5) (zSn_nd (zSn_lf zr_131_8) (zSn_lf zr_131_11))))
theorem zr_132_0 : zSnd 132 0 (o_aload 0 1) := zS_aload_n (i := 0) (by decide +kernel) rfl rfl
theorem zr_132_1 : zSnd 132 1 (o_iload 1 2) := zS_iload_n (i := 1) (by decide +kernel) rfl rfl
theorem zr_132_2 : zSnd 132 2 (o_callv 3 134 2 2 0 5) := zS_callV (n := 1) (idx := 38) (by decide +kernel) rfl rfl (by decide) rfl zq_399 zq_171 zq_172 (by decide +kernel) zMk_134 (by decide +kernel) (by decide +kernel) (by decide +kernel)
theorem zr_132_5 : zSnd 132 5 (o_aload 0 6) := zS_aload_n (i := 0) (by decide +kernel) rfl rfl
theorem zr_132_6 : zSnd 132 6 (o_callv 3 131 1 1 1 9) := zS_callV (n := 0) (idx := 42) (by decide +kernel) rfl rfl (by decide) rfl zq_400 zq_106 zq_107 (by decide +kernel) zMk_131 (by decide +kernel) (by decide +kernel) (by decide +kernel)
theorem zr_132_9 : zSnd 132 9 (o_iret) := zS_iret (by decide +kernel) (by decide +kernel)
theorem zT_132 (pc : Nat) : zSnd 132 pc (zc_132 pc) := by
  unfold zc_132
  exact (zSn_nd (zSn_nd (zSn_lf zr_132_0) (zSn_nd (zSn_lf zr_132_1) (zSn_lf zr_132_2))) (zSn_nd (zSn_lf zr_132_5) (zSn_nd (zSn_lf zr_132_6) (zSn_lf zr_132_9))))
theorem zr_133_0 : zSnd 133 0 (o_aload 0 1) := zS_aload_n (i := 0) (by decide +kernel) rfl rfl
theorem zr_133_1 : zSnd 133 1 (o_iload 1 2) := zS_iload_n (i := 1) (by decide +kernel) rfl rfl
theorem zr_133_2 : zSnd 133 2 (o_iload 2 3) := zS_iload_n (i := 2) (by decide +kernel) rfl rfl
theorem zr_133_3 : zSnd 133 3 (o_callv 3 135 3 4 0 6) := zS_callV (n := 2) (idx := 46) (by decide +kernel) rfl rfl (by decide) rfl zq_401 zq_54 zq_55 (by decide +kernel) zMk_135 (by decide +kernel) (by decide +kernel) (by decide +kernel)
theorem zr_133_6 : zSnd 133 6 (o_aload 0 7) := zS_aload_n (i := 0) (by decide +kernel) rfl rfl
theorem zr_133_7 : zSnd 133 7 (o_callv 3 131 1 1 1 10) := zS_callV (n := 0) (idx := 42) (by decide +kernel) rfl rfl (by decide) rfl zq_400 zq_106 zq_107 (by decide +kernel) zMk_131 (by decide +kernel) (by decide +kernel) (by decide +kernel)
theorem zr_133_10 : zSnd 133 10 (o_iret) := zS_iret (by decide +kernel) (by decide +kernel)
theorem zT_133 (pc : Nat) : zSnd 133 pc (zc_133 pc) := by
  unfold zc_133
  exact (zSn_nd (zSn_nd (zSn_lf zr_133_0) (zSn_nd (zSn_lf zr_133_1) (zSn_lf zr_133_2))) (zSn_nd (zSn_nd (zSn_lf zr_133_3) (zSn_lf zr_133_6)) (zSn_nd (zSn_lf zr_133_7) (zSn_lf zr_133_10))))
theorem zr_134_0 : zSnd 134 0 (o_aload 0 1) := zS_aload_n (i := 0) (by decide +kernel) rfl rfl
theorem zr_134_1 : zSnd 134 1 (o_callv 3 136 1 2 0 4) := zS_callV (n := 0) (idx := 50) (by decide +kernel) rfl rfl (by decide) rfl zq_402 zq_403 zq_404 (by decide +kernel) zMk_136 (by decide +kernel) (by decide +kernel) (by decide +kernel)
theorem zr_134_4 : zSnd 134 4 (o_aload 0 5) := zS_aload_n (i := 0) (by decide +kernel) rfl rfl
theorem zr_134_5 : zSnd 134 5 (o_const 0 6) := zS_iconst (by decide +kernel) rfl (by decide)
theorem zr_134_6 : zSnd 134 6 (o_iload 1 7) := zS_iload_n (i := 1) (by decide +kernel) rfl rfl
theorem zr_134_7 : zSnd 134 7 (o_callv 3 138 3 8 0 10) := zS_callV (n := 2) (idx := 53) (by decide +kernel) rfl rfl (by decide) rfl zq_405 zq_406 zq_407 (by decide +kernel) zMk_138 (by decide +kernel) (by decide +kernel) (by decide +kernel)
theorem zr_134_10 : zSnd 134 10 (o_ret) := zS_ret (by decide +kernel) (by decide +kernel)
theorem zT_134 (pc : Nat) : zSnd 134 pc (zc_134 pc) := by
  unfold zc_134
  exact (zSn_nd (zSn_nd (zSn_lf zr_134_0) (zSn_nd (zSn_lf zr_134_1) (zSn_lf zr_134_4))) (zSn_nd (zSn_nd (zSn_lf zr_134_5) (zSn_lf zr_134_6)) (zSn_nd (zSn_lf zr_134_7) (zSn_lf zr_134_10))))
theorem zr_135_0 : zSnd 135 0 (o_aload 0 1) := zS_aload_n (i := 0) (by decide +kernel) rfl rfl
theorem zr_135_1 : zSnd 135 1 (o_callv 3 136 1 2 0 4) := zS_callV (n := 0) (idx := 50) (by decide +kernel) rfl rfl (by decide) rfl zq_402 zq_403 zq_404 (by decide +kernel) zMk_136 (by decide +kernel) (by decide +kernel) (by decide +kernel)
theorem zr_135_4 : zSnd 135 4 (o_const 0 5) := zS_iconst (by decide +kernel) rfl (by decide)
theorem zr_135_5 : zSnd 135 5 (o_istore 3 6) := zS_istore_n (i := 3) (by decide +kernel) rfl rfl (by decide +kernel)
theorem zr_135_6 : zSnd 135 6 (o_iload 3 7) := zS_iload_n (i := 3) (by decide +kernel) rfl rfl
theorem zr_135_7 : zSnd 135 7 (o_aload 0 8) := zS_aload_n (i := 0) (by decide +kernel) rfl rfl
theorem zr_135_8 : zSnd 135 8 (o_getf 3 0 11) := zS_getf (idx := 12) (by decide +kernel) rfl (by decide) rfl (by decide) rfl zin_3 zq_397
theorem zr_135_11 : zSnd 135 11 (o_getf 4 1 14) := zS_getfN (idx := 56) (by decide +kernel) rfl (by decide) rfl (by decide) rfl zin_4 zq_408
theorem zr_135_14 : zSnd 135 14 (o_cge 29 17) := zS_cge (by decide +kernel : decode (zmB 135) 14 = .ok (.if_icmp .ge 15, 3)) rfl (by decide)
theorem zr_135_17 : zSnd 135 17 (o_aload 0 18) := zS_aload_n (i := 0) (by decide +kernel) rfl rfl
theorem zr_135_18 : zSnd 135 18 (o_iload 3 19) := zS_iload_n (i := 3) (by decide +kernel) rfl rfl
theorem zr_135_19 : zSnd 135 19 (o_iload 1 20) := zS_iload_n (i := 1) (by decide +kernel) rfl rfl
theorem zr_135_20 : zSnd 135 20 (o_callv 3 137 3 6 0 23) := zS_callV (n := 2) (idx := 60) (by decide +kernel) rfl rfl (by decide) rfl zq_409 zq_410 zq_411 (by decide +kernel) zMk_137 (by decide +kernel) (by decide +kernel) (by decide +kernel)
theorem zr_135_23 : zSnd 135 23 (o_iinc 3 1 26) := zS_iinc (by decide +kernel) rfl (by decide +kernel)
theorem zr_135_26 : zSnd 135 26 (o_goto 6) := zS_goto (by decide +kernel : decode (zmB 135) 26 = .ok (.goto (-20), 3)) (by decide)
theorem zr_135_29 : zSnd 135 29 (o_aload 0 30) := zS_aload_n (i := 0) (by decide +kernel) rfl rfl
theorem zr_135_30 : zSnd 135 30 (o_iload 1 31) := zS_iload_n (i := 1) (by decide +kernel) rfl rfl
theorem zr_135_31 : zSnd 135 31 (o_iload 2 32) := zS_iload_n (i := 2) (by decide +kernel) rfl rfl
theorem zr_135_32 : zSnd 135 32 (o_callv 3 138 3 8 0 35) := zS_callV (n := 2) (idx := 53) (by decide +kernel) rfl rfl (by decide) rfl zq_405 zq_406 zq_407 (by decide +kernel) zMk_138 (by decide +kernel) (by decide +kernel) (by decide +kernel)
theorem zr_135_35 : zSnd 135 35 (o_ret) := zS_ret (by decide +kernel) (by decide +kernel)
theorem zT_135 (pc : Nat) : zSnd 135 pc (zc_135 pc) := by
  unfold zc_135
  exact (zSn_nd (zSn_nd (zSn_nd (zSn_nd (zSn_lf zr_135_0) (zSn_lf zr_135_1)) (zSn_nd (zSn_lf zr_135_4) (zSn_nd (zSn_lf zr_135_5) (zSn_lf zr_135_6)))) (zSn_nd (zSn_nd (zSn_lf zr_135_7) (zSn_lf zr_135_8)) (zSn_nd (zSn_lf zr_135_11) (zSn_nd (zSn_lf zr_135_14) (zSn_lf zr_135_17))))) (zSn_nd (zSn_nd (zSn_nd (zSn_lf zr_135_18) (zSn_lf zr_135_19)) (zSn_nd (zSn_lf zr_135_20) (zSn_nd (zSn_lf zr_135_23) (zSn_lf zr_135_26)))) (zSn_nd (zSn_nd (zSn_lf zr_135_29) (zSn_lf zr_135_30)) (zSn_nd (zSn_lf zr_135_31) (zSn_nd (zSn_lf zr_135_32) (zSn_lf zr_135_35))))))
theorem zr_136_0 : zSnd 136 0 (o_const 0 1) := zS_iconst (by decide +kernel) rfl (by decide)
theorem zr_136_1 : zSnd 136 1 (o_istore 1 2) := zS_istore_n (i := 1) (by decide +kernel) rfl rfl (by decide +kernel)
theorem zr_136_2 : zSnd 136 2 (o_iload 1 3) := zS_iload_n (i := 1) (by decide +kernel) rfl rfl
theorem zr_136_3 : zSnd 136 3 (o_const 6 5) := zS_bipush (by decide +kernel) rfl (by decide) (by decide)
theorem zr_136_5 : zSnd 136 5 (o_cge 21 8) := zS_cge (by decide +kernel : decode (zmB 136) 5 = .ok (.if_icmp .ge 16, 3)) rfl (by decide)
theorem zr_136_8 : zSnd 136 8 (o_aload 0 9) := zS_aload_n (i := 0) (by decide +kernel) rfl rfl
theorem zr_136_9 : zSnd 136 9 (o_getf 3 2 12) := zS_getf (idx := 22) (by decide +kernel) rfl (by decide) rfl (by decide) rfl zin_3 zq_412
theorem zr_136_12 : zSnd 136 12 (o_iload 1 13) := zS_iload_n (i := 1) (by decide +kernel) rfl rfl
theorem zr_136_13 : zSnd 136 13 (o_const 0 14) := zS_iconst (by decide +kernel) rfl (by decide)
theorem zr_136_14 : zSnd 136 14 (o_iast 15) := zS_iast (by decide +kernel) rfl
theorem zr_136_15 : zSnd 136 15 (o_iinc 1 1 18) := zS_iinc (by decide +kernel) rfl (by decide +kernel)
theorem zr_136_18 : zSnd 136 18 (o_goto 2) := zS_goto (by decide +kernel : decode (zmB 136) 18 = .ok (.goto (-16), 3)) (by decide)
theorem zr_136_21 : zSnd 136 21 (o_const 0 22) := zS_iconst (by decide +kernel) rfl (by decide)
theorem zr_136_22 : zSnd 136 22 (o_istore 1 23) := zS_istore_n (i := 1) (by decide +kernel) rfl rfl (by decide +kernel)
theorem zr_136_23 : zSnd 136 23 (o_iload 1 24) := zS_iload_n (i := 1) (by decide +kernel) rfl rfl
theorem zr_136_24 : zSnd 136 24 (o_const 5 25) := zS_iconst (by decide +kernel) rfl (by decide)
theorem zr_136_25 : zSnd 136 25 (o_cge 41 28) := zS_cge (by decide +kernel : decode (zmB 136) 25 = .ok (.if_icmp .ge 16, 3)) rfl (by decide)
theorem zr_136_28 : zSnd 136 28 (o_aload 0 29) := zS_aload_n (i := 0) (by decide +kernel) rfl rfl
theorem zr_136_29 : zSnd 136 29 (o_getf 3 3 32) := zS_getf (idx := 25) (by decide +kernel) rfl (by decide) rfl (by decide) rfl zin_3 zq_413
theorem zr_136_32 : zSnd 136 32 (o_iload 1 33) := zS_iload_n (i := 1) (by decide +kernel) rfl rfl
theorem zr_136_33 : zSnd 136 33 (o_const 0 34) := zS_iconst (by decide +kernel) rfl (by decide)
theorem zr_136_34 : zSnd 136 34 (o_iast 35) := zS_iast (by decide +kernel) rfl
theorem zr_136_35 : zSnd 136 35 (o_iinc 1 1 38) := zS_iinc (by decide +kernel) rfl (by decide +kernel)
theorem zr_136_38 : zSnd 136 38 (o_goto 23) := zS_goto (by decide +kernel : decode (zmB 136) 38 = .ok (.goto (-15), 3)) (by decide)
theorem zr_136_41 : zSnd 136 41 (o_ret) := zS_ret (by decide +kernel) (by decide +kernel)
theorem zT_136 (pc : Nat) : zSnd 136 pc (zc_136 pc) := by
  unfold zc_136
  exact (zSn_nd (zSn_nd (zSn_nd (zSn_nd (zSn_lf zr_136_0) (zSn_nd (zSn_lf zr_136_1) (zSn_lf zr_136_2))) (zSn_nd (zSn_lf zr_136_3) (zSn_nd (zSn_lf zr_136_5) (zSn_lf zr_136_8)))) (zSn_nd (zSn_nd (zSn_lf zr_136_9) (zSn_nd (zSn_lf zr_136_12) (zSn_lf zr_136_13))) (zSn_nd (zSn_lf zr_136_14) (zSn_nd (zSn_lf zr_136_15) (zSn_lf zr_136_18))))) (zSn_nd (zSn_nd (zSn_nd (zSn_lf zr_136_21) (zSn_nd (zSn_lf zr_136_22) (zSn_lf zr_136_23))) (zSn_nd (zSn_lf zr_136_24) (zSn_nd (zSn_lf zr_136_25) (zSn_lf zr_136_28)))) (zSn_nd (zSn_nd (zSn_lf zr_136_29) (zSn_nd (zSn_lf zr_136_32) (zSn_lf zr_136_33))) (zSn_nd (zSn_nd (zSn_lf zr_136_34) (zSn_lf zr_136_35)) (zSn_nd (zSn_lf zr_136_38) (zSn_lf zr_136_41))))))
theorem zr_137_0 : zSnd 137 0 (o_const 0 1) := zS_iconst (by decide +kernel) rfl (by decide)
theorem zr_137_1 : zSnd 137 1 (o_istore 3 2) := zS_istore_n (i := 3) (by decide +kernel) rfl rfl (by decide +kernel)
theorem zr_137_2 : zSnd 137 2 (o_iload 3 3) := zS_iload_n (i := 3) (by decide +kernel) rfl rfl
theorem zr_137_3 : zSnd 137 3 (o_aload 0 4) := zS_aload_n (i := 0) (by decide +kernel) rfl rfl
theorem zr_137_4 : zSnd 137 4 (o_getf 3 0 7) := zS_getf (idx := 12) (by decide +kernel) rfl (by decide) rfl (by decide) rfl zin_3 zq_397
theorem zr_137_7 : zSnd 137 7 (o_getf 4 4 10) := zS_getfN (idx := 63) (by decide +kernel) rfl (by decide) rfl (by decide) rfl zin_4 zq_414
theorem zr_137_10 : zSnd 137 10 (o_iload 1 11) := zS_iload_n (i := 1) (by decide +kernel) rfl rfl
theorem zr_137_11 : zSnd 137 11 (o_iald 12) := zS_iald (by decide +kernel) rfl
theorem zr_137_12 : zSnd 137 12 (o_cge 68 15) := zS_cge (by decide +kernel : decode (zmB 137) 12 = .ok (.if_icmp .ge 56, 3)) rfl (by decide)
theorem zr_137_15 : zSnd 137 15 (o_iload 1 16) := zS_iload_n (i := 1) (by decide +kernel) rfl rfl
theorem zr_137_16 : zSnd 137 16 (o_iload 3 17) := zS_iload_n (i := 3) (by decide +kernel) rfl rfl
theorem zr_137_17 : zSnd 137 17 (o_call 35 2 2 1 20) := zS_callSN (idx := 66) (by decide +kernel) rfl zq_415 zq_66 (by decide +kernel) zMk_35 (by decide +kernel) (by decide +kernel) (by decide +kernel)
theorem zr_137_20 : zSnd 137 20 (o_istore 4 22) := zS_istore (by decide +kernel) rfl (by decide +kernel)
theorem zr_137_22 : zSnd 137 22 (o_aload 0 23) := zS_aload_n (i := 0) (by decide +kernel) rfl rfl
theorem zr_137_23 : zSnd 137 23 (o_getf 3 0 26) := zS_getf (idx := 12) (by decide +kernel) rfl (by decide) rfl (by decide) rfl zin_3 zq_397
theorem zr_137_26 : zSnd 137 26 (o_getf 4 13 29) := zS_getfN (idx := 70) (by decide +kernel) rfl (by decide) rfl (by decide) rfl zin_4 zq_416
theorem zr_137_29 : zSnd 137 29 (o_iload 4 31) := zS_iload (by decide +kernel) rfl
theorem zr_137_31 : zSnd 137 31 (o_iald 32) := zS_iald (by decide +kernel) rfl
theorem zr_137_32 : zSnd 137 32 (o_istore 5 34) := zS_istore (by decide +kernel) rfl (by decide +kernel)
theorem zr_137_34 : zSnd 137 34 (o_iload 5 36) := zS_iload (by decide +kernel) rfl
theorem zr_137_36 : zSnd 137 36 (o_iload 2 37) := zS_iload_n (i := 2) (by decide +kernel) rfl rfl
theorem zr_137_37 : zSnd 137 37 (o_cge 54 40) := zS_cge (by decide +kernel : decode (zmB 137) 37 = .ok (.if_icmp .ge 17, 3)) rfl (by decide)
theorem zr_137_40 : zSnd 137 40 (o_aload 0 41) := zS_aload_n (i := 0) (by decide +kernel) rfl rfl
theorem zr_137_41 : zSnd 137 41 (o_getf 3 0 44) := zS_getf (idx := 12) (by decide +kernel) rfl (by decide) rfl (by decide) rfl zin_3 zq_397
theorem zr_137_44 : zSnd 137 44 (o_iload 4 46) := zS_iload (by decide +kernel) rfl
theorem zr_137_46 : zSnd 137 46 (o_iload 5 48) := zS_iload (by decide +kernel) rfl
theorem zr_137_48 : zSnd 137 48 (o_callv 4 164 3 4 1 51) := zS_callVN (n := 2) (idx := 73) (by decide +kernel) rfl rfl (by decide) rfl zq_417 zq_81 zq_82 (by decide +kernel) zMk_164 (by decide +kernel) (by decide +kernel) (by decide +kernel)
theorem zr_137_51 : zSnd 137 51 (o_ifeq 55 54) := zS_ifeq (by decide +kernel : decode (zmB 137) 51 = .ok (.ifCond .eq 4, 3)) rfl (by decide)
theorem zr_137_54 : zSnd 137 54 (o_ret) := zS_ret (by decide +kernel) (by decide +kernel)
theorem zr_137_55 : zSnd 137 55 (o_aload 0 56) := zS_aload_n (i := 0) (by decide +kernel) rfl rfl
theorem zr_137_56 : zSnd 137 56 (o_iload 1 57) := zS_iload_n (i := 1) (by decide +kernel) rfl rfl
theorem zr_137_57 : zSnd 137 57 (o_iload 5 59) := zS_iload (by decide +kernel) rfl
theorem zr_137_59 : zSnd 137 59 (o_callv 3 142 3 5 0 62) := zS_callV (n := 2) (idx := 77) (by decide +kernel) rfl rfl (by decide) rfl zq_418 zq_419 zq_420 (by decide +kernel) zMk_142 (by decide +kernel) (by decide +kernel) (by decide +kernel)
theorem zr_137_62 : zSnd 137 62 (o_iinc 3 1 65) := zS_iinc (by decide +kernel) rfl (by decide +kernel)
theorem zr_137_65 : zSnd 137 65 (o_goto 2) := zS_goto (by decide +kernel : decode (zmB 137) 65 = .ok (.goto (-63), 3)) (by decide)
theorem zr_137_68 : zSnd 137 68 (o_ret) := zS_ret (by decide +kernel) (by decide +kernel)
theorem zT_137 (pc : Nat) : zSnd 137 pc (zc_137 pc) := by
  unfold zc_137
  exact (zSn_nd (zSn_nd (zSn_nd (zSn_nd (zSn_nd (zSn_lf zr_137_0) (zSn_lf zr_137_1)) (zSn_nd (zSn_lf zr_137_2) (zSn_lf zr_137_3))) (zSn_nd (zSn_nd (zSn_lf zr_137_4) (zSn_lf zr_137_7)) (zSn_nd (zSn_lf zr_137_10) (zSn_nd (zSn_lf zr_137_11) (zSn_lf zr_137_12))))) (zSn_nd (zSn_nd (zSn_nd (zSn_lf zr_137_15) (zSn_lf zr_137_16)) (zSn_nd (zSn_lf zr_137_17) (zSn_lf zr_137_20))) (zSn_nd (zSn_nd (zSn_lf zr_137_22) (zSn_lf zr_137_23)) (zSn_nd (zSn_lf zr_137_26) (zSn_nd (zSn_lf zr_137_29) (zSn_lf zr_137_31)))))) (zSn_nd (zSn_nd (zSn_nd (zSn_nd (zSn_lf zr_137_32) (zSn_lf zr_137_34)) (zSn_nd (zSn_lf zr_137_36) (zSn_lf zr_137_37))) (zSn_nd (zSn_nd (zSn_lf zr_137_40) (zSn_lf zr_137_41)) (zSn_nd (zSn_lf zr_137_44) (zSn_nd (zSn_lf zr_137_46) (zSn_lf zr_137_48))))) (zSn_nd (zSn_nd (zSn_nd (zSn_lf zr_137_51) (zSn_lf zr_137_54)) (zSn_nd (zSn_lf zr_137_55) (zSn_lf zr_137_56))) (zSn_nd (zSn_nd (zSn_lf zr_137_57) (zSn_lf zr_137_59)) (zSn_nd (zSn_lf zr_137_62) (zSn_nd (zSn_lf zr_137_65) (zSn_lf zr_137_68)))))))
theorem zr_138_0 : zSnd 138 0 (o_const 0 1) := zS_iconst (by decide +kernel) rfl (by decide)
theorem zr_138_1 : zSnd 138 1 (o_istore 3 2) := zS_istore_n (i := 3) (by decide +kernel) rfl rfl (by decide +kernel)
theorem zr_138_2 : zSnd 138 2 (o_iload 3 3) := zS_iload_n (i := 3) (by decide +kernel) rfl rfl
theorem zr_138_3 : zSnd 138 3 (o_const 30 5) := zS_bipush (by decide +kernel) rfl (by decide) (by decide)
theorem zr_138_5 : zSnd 138 5 (o_cge 149 8) := zS_cge (by decide +kernel : decode (zmB 138) 5 = .ok (.if_icmp .ge 144, 3)) rfl (by decide)
theorem zr_138_8 : zSnd 138 8 (o_const (-1) 9) := zS_iconst (by decide +kernel) rfl (by decide)
theorem zr_138_9 : zSnd 138 9 (o_istore 4 11) := zS_istore (by decide +kernel) rfl (by decide +kernel)
theorem zr_138_11 : zSnd 138 11 (o_const 0 12) := zS_iconst (by decide +kernel) rfl (by decide)
theorem zr_138_12 : zSnd 138 12 (o_istore 5 14) := zS_istore (by decide +kernel) rfl (by decide +kernel)
theorem zr_138_14 : zSnd 138 14 (o_const 0 15) := zS_iconst (by decide +kernel) rfl (by decide)
theorem zr_138_15 : zSnd 138 15 (o_istore 6 17) := zS_istore (by decide +kernel) rfl (by decide +kernel)
theorem zr_138_17 : zSnd 138 17 (o_iload 6 19) := zS_iload (by decide +kernel) rfl
theorem zr_138_19 : zSnd 138 19 (o_aload 0 20) := zS_aload_n (i := 0) (by decide +kernel) rfl rfl
theorem zr_138_20 : zSnd 138 20 (o_getf 3 0 23) := zS_getf (idx := 12) (by decide +kernel) rfl (by decide) rfl (by decide) rfl zin_3 zq_397
theorem zr_138_23 : zSnd 138 23 (o_getf 4 1 26) := zS_getfN (idx := 56) (by decide +kernel) rfl (by decide) rfl (by decide) rfl zin_4 zq_408
theorem zr_138_26 : zSnd 138 26 (o_cge 128 29) := zS_cge (by decide +kernel : decode (zmB 138) 26 = .ok (.if_icmp .ge 102, 3)) rfl (by decide)
theorem zr_138_29 : zSnd 138 29 (o_aload 0 30) := zS_aload_n (i := 0) (by decide +kernel) rfl rfl
theorem zr_138_30 : zSnd 138 30 (o_getf 3 2 33) := zS_getf (idx := 22) (by decide +kernel) rfl (by decide) rfl (by decide) rfl zin_3 zq_412
theorem zr_138_33 : zSnd 138 33 (o_iload 6 35) := zS_iload (by decide +kernel) rfl
theorem zr_138_35 : zSnd 138 35 (o_iald 36) := zS_iald (by decide +kernel) rfl
theorem zr_138_36 : zSnd 138 36 (o_aload 0 37) := zS_aload_n (i := 0) (by decide +kernel) rfl rfl
theorem zr_138_37 : zSnd 138 37 (o_getf 3 0 40) := zS_getf (idx := 12) (by decide +kernel) rfl (by decide) rfl (by decide) rfl zin_3 zq_397
theorem zr_138_40 : zSnd 138 40 (o_getf 4 4 43) := zS_getfN (idx := 63) (by decide +kernel) rfl (by decide) rfl (by decide) rfl zin_4 zq_414
theorem zr_138_43 : zSnd 138 43 (o_iload 6 45) := zS_iload (by decide +kernel) rfl
theorem zr_138_45 : zSnd 138 45 (o_iald 46) := zS_iald (by decide +kernel) rfl
theorem zr_138_46 : zSnd 138 46 (o_cge 122 49) := zS_cge (by decide +kernel : decode (zmB 138) 46 = .ok (.if_icmp .ge 76, 3)) rfl (by decide)
theorem zr_138_49 : zSnd 138 49 (o_aload 0 50) := zS_aload_n (i := 0) (by decide +kernel) rfl rfl
theorem zr_138_50 : zSnd 138 50 (o_getf 3 0 53) := zS_getf (idx := 12) (by decide +kernel) rfl (by decide) rfl (by decide) rfl zin_3 zq_397
theorem zr_138_53 : zSnd 138 53 (o_iload 6 55) := zS_iload (by decide +kernel) rfl
theorem zr_138_55 : zSnd 138 55 (o_aload 0 56) := zS_aload_n (i := 0) (by decide +kernel) rfl rfl
theorem zr_138_56 : zSnd 138 56 (o_getf 3 2 59) := zS_getf (idx := 22) (by decide +kernel) rfl (by decide) rfl (by decide) rfl zin_3 zq_412
theorem zr_138_59 : zSnd 138 59 (o_iload 6 61) := zS_iload (by decide +kernel) rfl
theorem zr_138_61 : zSnd 138 61 (o_iald 62) := zS_iald (by decide +kernel) rfl
theorem zr_138_62 : zSnd 138 62 (o_call 35 2 2 1 65) := zS_callSN (idx := 66) (by decide +kernel) rfl zq_415 zq_66 (by decide +kernel) zMk_35 (by decide +kernel) (by decide +kernel) (by decide +kernel)
theorem zr_138_65 : zSnd 138 65 (o_aload 0 66) := zS_aload_n (i := 0) (by decide +kernel) rfl rfl
theorem zr_138_66 : zSnd 138 66 (o_iload 6 68) := zS_iload (by decide +kernel) rfl
theorem zr_138_68 : zSnd 138 68 (o_iload 1 69) := zS_iload_n (i := 1) (by decide +kernel) rfl rfl
theorem zr_138_69 : zSnd 138 69 (o_callv 3 140 3 5 1 72) := zS_callV (n := 2) (idx := 80) (by decide +kernel) rfl rfl (by decide) rfl zq_421 zq_422 zq_423 (by decide +kernel) zMk_140 (by decide +kernel) (by decide +kernel) (by decide +kernel)
theorem zr_138_72 : zSnd 138 72 (o_callv 4 163 3 7 1 75) := zS_callVN (n := 2) (idx := 83) (by decide +kernel) rfl rfl (by decide) rfl zq_424 zq_425 zq_426 (by decide +kernel) zMk_163 (by decide +kernel) (by decide +kernel) (by decide +kernel)
theorem zr_138_75 : zSnd 138 75 (o_istore 7 77) := zS_istore (by decide +kernel) rfl (by decide +kernel)
theorem zr_138_77 : zSnd 138 77 (o_iload 4 79) := zS_iload (by decide +kernel) rfl
theorem zr_138_79 : zSnd 138 79 (o_const (-1) 80) := zS_iconst (by decide +kernel) rfl (by decide)
theorem zr_138_80 : zSnd 138 80 (o_ceq 114 83) := zS_ceq (by decide +kernel : decode (zmB 138) 80 = .ok (.if_icmp .eq 34, 3)) rfl (by decide)
theorem zr_138_83 : zSnd 138 83 (o_iload 7 85) := zS_iload (by decide +kernel) rfl
theorem zr_138_85 : zSnd 138 85 (o_iload 5 87) := zS_iload (by decide +kernel) rfl
theorem zr_138_87 : zSnd 138 87 (o_clt 114 90) := zS_clt (by decide +kernel : decode (zmB 138) 87 = .ok (.if_icmp .lt 27, 3)) rfl (by decide)
theorem zr_138_90 : zSnd 138 90 (o_iload 7 92) := zS_iload (by decide +kernel) rfl
theorem zr_138_92 : zSnd 138 92 (o_iload 5 94) := zS_iload (by decide +kernel) rfl
theorem zr_138_94 : zSnd 138 94 (o_cne 122 97) := zS_cne (by decide +kernel : decode (zmB 138) 94 = .ok (.if_icmp .ne 28, 3)) rfl (by decide)
theorem zr_138_97 : zSnd 138 97 (o_aload 0 98) := zS_aload_n (i := 0) (by decide +kernel) rfl rfl
theorem zr_138_98 : zSnd 138 98 (o_iload 6 100) := zS_iload (by decide +kernel) rfl
theorem zr_138_100 : zSnd 138 100 (o_iload 2 101) := zS_iload_n (i := 2) (by decide +kernel) rfl rfl
theorem zr_138_101 : zSnd 138 101 (o_callv 3 143 3 3 1 104) := zS_callV (n := 2) (idx := 86) (by decide +kernel) rfl rfl (by decide) rfl zq_427 zq_428 zq_429 (by decide +kernel) zMk_143 (by decide +kernel) (by decide +kernel) (by decide +kernel)
theorem zr_138_104 : zSnd 138 104 (o_aload 0 105) := zS_aload_n (i := 0) (by decide +kernel) rfl rfl
theorem zr_138_105 : zSnd 138 105 (o_iload 4 107) := zS_iload (by decide +kernel) rfl
theorem zr_138_107 : zSnd 138 107 (o_iload 2 108) := zS_iload_n (i := 2) (by decide +kernel) rfl rfl
theorem zr_138_108 : zSnd 138 108 (o_callv 3 143 3 3 1 111) := zS_callV (n := 2) (idx := 86) (by decide +kernel) rfl rfl (by decide) rfl zq_427 zq_428 zq_429 (by decide +kernel) zMk_143 (by decide +kernel) (by decide +kernel) (by decide +kernel)
theorem zr_138_111 : zSnd 138 111 (o_cge 122 114) := zS_cge (by decide +kernel : decode (zmB 138) 111 = .ok (.if_icmp .ge 11, 3)) rfl (by decide)
theorem zr_138_114 : zSnd 138 114 (o_iload 6 116) := zS_iload (by decide +kernel) rfl
theorem zr_138_116 : zSnd 138 116 (o_istore 4 118) := zS_istore (by decide +kernel) rfl (by decide +kernel)
theorem zr_138_118 : zSnd 138 118 (o_iload 7 120) := zS_iload (by decide +kernel) rfl
theorem zr_138_120 : zSnd 138 120 (o_istore 5 122) := zS_istore (by decide +kernel) rfl (by decide +kernel)
theorem zr_138_122 : zSnd 138 122 (o_iinc 6 1 125) := zS_iinc (by decide +kernel) rfl (by decide +kernel)
theorem zr_138_125 : zSnd 138 125 (o_goto 17) := zS_goto (by decide +kernel : decode (zmB 138) 125 = .ok (.goto (-108), 3)) (by decide)
theorem zr_138_128 : zSnd 138 128 (o_iload 4 130) := zS_iload (by decide +kernel) rfl
theorem zr_138_130 : zSnd 138 130 (o_const (-1) 131) := zS_iconst (by decide +kernel) rfl (by decide)
theorem zr_138_131 : zSnd 138 131 (o_cne 135 134) := zS_cne (by decide +kernel : decode (zmB 138) 131 = .ok (.if_icmp .ne 4, 3)) rfl (by decide)
theorem zr_138_134 : zSnd 138 134 (o_ret) := zS_ret (by decide +kernel) (by decide +kernel)
theorem zr_138_135 : zSnd 138 135 (o_aload 0 136) := zS_aload_n (i := 0) (by decide +kernel) rfl rfl
theorem zr_138_136 : zSnd 138 136 (o_iload 4 138) := zS_iload (by decide +kernel) rfl
theorem zr_138_138 : zSnd 138 138 (o_iload 5 140) := zS_iload (by decide +kernel) rfl
theorem zr_138_140 : zSnd 138 140 (o_callv 3 142 3 5 0 143) := zS_callV (n := 2) (idx := 77) (by decide +kernel) rfl rfl (by decide) rfl zq_418 zq_419 zq_420 (by decide +kernel) zMk_142 (by decide +kernel) (by decide +kernel) (by decide +kernel)
theorem zr_138_143 : zSnd 138 143 (o_iinc 3 1 146) := zS_iinc (by decide +kernel) rfl (by decide +kernel)
theorem zr_138_146 : zSnd 138 146 (o_goto 2) := zS_goto (by decide +kernel : decode (zmB 138) 146 = .ok (.goto (-144), 3)) (by decide)
theorem zr_138_149 : zSnd 138 149 (o_ret) := zS_ret (by decide +kernel) (by decide +kernel)
theorem zT_138 (pc : Nat) : zSnd 138 pc (zc_138 pc) := by
  unfold zc_138
  exact (zSn_nd (zSn_nd (zSn_nd (zSn_nd (zSn_nd (zSn_nd (zSn_lf zr_138_0) (zSn_lf zr_138_1)) (zSn_nd (zSn_lf zr_138_2) (zSn_lf zr_138_3))) (zSn_nd (zSn_nd (zSn_lf zr_138_5) (zSn_lf zr_138_8)) (zSn_nd (zSn_lf zr_138_9) (zSn_nd (zSn_lf zr_138_11) (zSn_lf zr_138_12))))) (zSn_nd (zSn_nd (zSn_nd (zSn_lf zr_138_14) (zSn_lf zr_138_15)) (zSn_nd (zSn_lf zr_138_17) (zSn_lf zr_138_19))) (zSn_nd (zSn_nd (zSn_lf zr_138_20) (zSn_lf zr_138_23)) (zSn_nd (zSn_lf zr_138_26) (zSn_nd (zSn_lf zr_138_29) (zSn_lf zr_138_30)))))) (zSn_nd (zSn_nd (zSn_nd (zSn_nd (zSn_lf zr_138_33) (zSn_lf zr_138_35)) (zSn_nd (zSn_lf zr_138_36) (zSn_lf zr_138_37))) (zSn_nd (zSn_nd (zSn_lf zr_138_40) (zSn_lf zr_138_43)) (zSn_nd (zSn_lf zr_138_45) (zSn_nd (zSn_lf zr_138_46) (zSn_lf zr_138_49))))) (zSn_nd (zSn_nd (zSn_nd (zSn_lf zr_138_50) (zSn_lf zr_138_53)) (zSn_nd (zSn_lf zr_138_55) (zSn_nd (zSn_lf zr_138_56) (zSn_lf zr_138_59)))) (zSn_nd (zSn_nd (zSn_lf zr_138_61) (zSn_lf zr_138_62)) (zSn_nd (zSn_lf zr_138_65) (zSn_nd (zSn_lf zr_138_66) (zSn_lf zr_138_68))))))) (zSn_nd (zSn_nd (zSn_nd (zSn_nd (zSn_nd (zSn_lf zr_138_69) (zSn_lf zr_138_72)) (zSn_nd (zSn_lf zr_138_75) (zSn_lf zr_138_77))) (zSn_nd (zSn_nd (zSn_lf zr_138_79) (zSn_lf zr_138_80)) (zSn_nd (zSn_lf zr_138_83) (zSn_nd (zSn_lf zr_138_85) (zSn_lf zr_138_87))))) (zSn_nd (zSn_nd (zSn_nd (zSn_lf zr_138_90) (zSn_lf zr_138_92)) (zSn_nd (zSn_lf zr_138_94) (zSn_nd (zSn_lf zr_138_97) (zSn_lf zr_138_98)))) (zSn_nd (zSn_nd (zSn_lf zr_138_100) (zSn_lf zr_138_101)) (zSn_nd (zSn_lf zr_138_104) (zSn_nd (zSn_lf zr_138_105) (zSn_lf zr_138_107)))))) (zSn_nd (zSn_nd (zSn_nd (zSn_nd (zSn_lf zr_138_108) (zSn_lf zr_138_111)) (zSn_nd (zSn_lf zr_138_114) (zSn_lf zr_138_116))) (zSn_nd (zSn_nd (zSn_lf zr_138_118) (zSn_lf zr_138_120)) (zSn_nd (zSn_lf zr_138_122) (zSn_nd (zSn_lf zr_138_125) (zSn_lf zr_138_128))))) (zSn_nd (zSn_nd (zSn_nd (zSn_lf zr_138_130) (zSn_lf zr_138_131)) (zSn_nd (zSn_lf zr_138_134) (zSn_nd (zSn_lf zr_138_135) (zSn_lf zr_138_136)))) (zSn_nd (zSn_nd (zSn_lf zr_138_138) (zSn_lf zr_138_140)) (zSn_nd (zSn_lf zr_138_143) (zSn_nd (zSn_lf zr_138_146) (zSn_lf zr_138_149))))))))
theorem zr_139_0 : zSnd 139 0 (o_aload 0 1) := zS_aload_n (i := 0) (by decide +kernel) rfl rfl
theorem zr_139_1 : zSnd 139 1 (o_callv 3 136 1 2 0 4) := zS_callV (n := 0) (idx := 50) (by decide +kernel) rfl rfl (by decide) rfl zq_402 zq_403 zq_404 (by decide +kernel) zMk_136 (by decide +kernel) (by decide +kernel) (by decide +kernel)
theorem zr_139_4 : zSnd 139 4 (o_const 0 5) := zS_iconst (by decide +kernel) rfl (by decide)
theorem zr_139_5 : zSnd 139 5 (o_istore 1 6) := zS_istore_n (i := 1) (by decide +kernel) rfl rfl (by decide +kernel)
theorem zr_139_6 : zSnd 139 6 (o_iload 1 7) := zS_iload_n (i := 1) (by decide +kernel) rfl rfl
theorem zr_139_7 : zSnd 139 7 (o_const 30 9) := zS_bipush (by decide +kernel) rfl (by decide) (by decide)
theorem zr_139_9 : zSnd 139 9 (o_cge 140 12) := zS_cge (by decide +kernel : decode (zmB 139) 9 = .ok (.if_icmp .ge 131, 3)) rfl (by decide)
theorem zr_139_12 : zSnd 139 12 (o_const (-1) 13) := zS_iconst (by decide +kernel) rfl (by decide)
theorem zr_139_13 : zSnd 139 13 (o_istore 2 14) := zS_istore_n (i := 2) (by decide +kernel) rfl rfl (by decide +kernel)
theorem zr_139_14 : zSnd 139 14 (o_const 0 15) := zS_iconst (by decide +kernel) rfl (by decide)
theorem zr_139_15 : zSnd 139 15 (o_istore 3 16) := zS_istore_n (i := 3) (by decide +kernel) rfl rfl (by decide +kernel)
theorem zr_139_16 : zSnd 139 16 (o_const 0 17) := zS_iconst (by decide +kernel) rfl (by decide)
theorem zr_139_17 : zSnd 139 17 (o_istore 4 19) := zS_istore (by decide +kernel) rfl (by decide +kernel)
theorem zr_139_19 : zSnd 139 19 (o_iload 4 21) := zS_iload (by decide +kernel) rfl
theorem zr_139_21 : zSnd 139 21 (o_aload 0 22) := zS_aload_n (i := 0) (by decide +kernel) rfl rfl
theorem zr_139_22 : zSnd 139 22 (o_getf 3 0 25) := zS_getf (idx := 12) (by decide +kernel) rfl (by decide) rfl (by decide) rfl zin_3 zq_397
theorem zr_139_25 : zSnd 139 25 (o_getf 4 1 28) := zS_getfN (idx := 56) (by decide +kernel) rfl (by decide) rfl (by decide) rfl zin_4 zq_408
theorem zr_139_28 : zSnd 139 28 (o_cge 96 31) := zS_cge (by decide +kernel : decode (zmB 139) 28 = .ok (.if_icmp .ge 68, 3)) rfl (by decide)
theorem zr_139_31 : zSnd 139 31 (o_aload 0 32) := zS_aload_n (i := 0) (by decide +kernel) rfl rfl
theorem zr_139_32 : zSnd 139 32 (o_getf 3 2 35) := zS_getf (idx := 22) (by decide +kernel) rfl (by decide) rfl (by decide) rfl zin_3 zq_412
theorem zr_139_35 : zSnd 139 35 (o_iload 4 37) := zS_iload (by decide +kernel) rfl
theorem zr_139_37 : zSnd 139 37 (o_iald 38) := zS_iald (by decide +kernel) rfl
theorem zr_139_38 : zSnd 139 38 (o_aload 0 39) := zS_aload_n (i := 0) (by decide +kernel) rfl rfl
theorem zr_139_39 : zSnd 139 39 (o_getf 3 0 42) := zS_getf (idx := 12) (by decide +kernel) rfl (by decide) rfl (by decide) rfl zin_3 zq_397
theorem zr_139_42 : zSnd 139 42 (o_getf 4 4 45) := zS_getfN (idx := 63) (by decide +kernel) rfl (by decide) rfl (by decide) rfl zin_4 zq_414
theorem zr_139_45 : zSnd 139 45 (o_iload 4 47) := zS_iload (by decide +kernel) rfl
theorem zr_139_47 : zSnd 139 47 (o_iald 48) := zS_iald (by decide +kernel) rfl
theorem zr_139_48 : zSnd 139 48 (o_cge 90 51) := zS_cge (by decide +kernel : decode (zmB 139) 48 = .ok (.if_icmp .ge 42, 3)) rfl (by decide)
theorem zr_139_51 : zSnd 139 51 (o_aload 0 52) := zS_aload_n (i := 0) (by decide +kernel) rfl rfl
theorem zr_139_52 : zSnd 139 52 (o_getf 3 0 55) := zS_getf (idx := 12) (by decide +kernel) rfl (by decide) rfl (by decide) rfl zin_3 zq_397
theorem zr_139_55 : zSnd 139 55 (o_getf 4 12 58) := zS_getfN (idx := 89) (by decide +kernel) rfl (by decide) rfl (by decide) rfl zin_4 zq_430
theorem zr_139_58 : zSnd 139 58 (o_iload 4 60) := zS_iload (by decide +kernel) rfl
theorem zr_139_60 : zSnd 139 60 (o_aload 0 61) := zS_aload_n (i := 0) (by decide +kernel) rfl rfl
theorem zr_139_61 : zSnd 139 61 (o_getf 3 2 64) := zS_getf (idx := 22) (by decide +kernel) rfl (by decide) rfl (by decide) rfl zin_3 zq_412
theorem zr_139_64 : zSnd 139 64 (o_iload 4 66) := zS_iload (by decide +kernel) rfl
theorem zr_139_66 : zSnd 139 66 (o_iald 67) := zS_iald (by decide +kernel) rfl
theorem zr_139_67 : zSnd 139 67 (o_call 35 2 2 1 70) := zS_callSN (idx := 66) (by decide +kernel) rfl zq_415 zq_66 (by decide +kernel) zMk_35 (by decide +kernel) (by decide +kernel) (by decide +kernel)
theorem zr_139_70 : zSnd 139 70 (o_iald 71) := zS_iald (by decide +kernel) rfl
theorem zr_139_71 : zSnd 139 71 (o_istore 5 73) := zS_istore (by decide +kernel) rfl (by decide +kernel)
theorem zr_139_73 : zSnd 139 73 (o_iload 2 74) := zS_iload_n (i := 2) (by decide +kernel) rfl rfl
theorem zr_139_74 : zSnd 139 74 (o_const (-1) 75) := zS_iconst (by decide +kernel) rfl (by decide)
theorem zr_139_75 : zSnd 139 75 (o_ceq 84 78) := zS_ceq (by decide +kernel : decode (zmB 139) 75 = .ok (.if_icmp .eq 9, 3)) rfl (by decide)
theorem zr_139_78 : zSnd 139 78 (o_iload 5 80) := zS_iload (by decide +kernel) rfl
theorem zr_139_80 : zSnd 139 80 (o_iload 3 81) := zS_iload_n (i := 3) (by decide +kernel) rfl rfl
theorem zr_139_81 : zSnd 139 81 (o_cge 90 84) := zS_cge (by decide +kernel : decode (zmB 139) 81 = .ok (.if_icmp .ge 9, 3)) rfl (by decide)
theorem zr_139_84 : zSnd 139 84 (o_iload 4 86) := zS_iload (by decide +kernel) rfl
theorem zr_139_86 : zSnd 139 86 (o_istore 2 87) := zS_istore_n (i := 2) (by decide +kernel) rfl rfl (by decide +kernel)
theorem zr_139_87 : zSnd 139 87 (o_iload 5 89) := zS_iload (by decide +kernel) rfl
theorem zr_139_89 : zSnd 139 89 (o_istore 3 90) := zS_istore_n (i := 3) (by decide +kernel) rfl rfl (by decide +kernel)
theorem zr_139_90 : zSnd 139 90 (o_iinc 4 1 93) := zS_iinc (by decide +kernel) rfl (by decide +kernel)
theorem zr_139_93 : zSnd 139 93 (o_goto 19) := zS_goto (by decide +kernel : decode (zmB 139) 93 = .ok (.goto (-74), 3)) (by decide)
theorem zr_139_96 : zSnd 139 96 (o_iload 2 97) := zS_iload_n (i := 2) (by decide +kernel) rfl rfl
theorem zr_139_97 : zSnd 139 97 (o_const (-1) 98) := zS_iconst (by decide +kernel) rfl (by decide)
theorem zr_139_98 : zSnd 139 98 (o_cne 102 101) := zS_cne (by decide +kernel : decode (zmB 139) 98 = .ok (.if_icmp .ne 4, 3)) rfl (by decide)
theorem zr_139_101 : zSnd 139 101 (o_ret) := zS_ret (by decide +kernel) (by decide +kernel)
theorem zr_139_102 : zSnd 139 102 (o_iload 2 103) := zS_iload_n (i := 2) (by decide +kernel) rfl rfl
theorem zr_139_103 : zSnd 139 103 (o_aload 0 104) := zS_aload_n (i := 0) (by decide +kernel) rfl rfl
theorem zr_139_104 : zSnd 139 104 (o_getf 3 2 107) := zS_getf (idx := 22) (by decide +kernel) rfl (by decide) rfl (by decide) rfl zin_3 zq_412
theorem zr_139_107 : zSnd 139 107 (o_iload 2 108) := zS_iload_n (i := 2) (by decide +kernel) rfl rfl
theorem zr_139_108 : zSnd 139 108 (o_iald 109) := zS_iald (by decide +kernel) rfl
theorem zr_139_109 : zSnd 139 109 (o_call 35 2 2 1 112) := zS_callSN (idx := 66) (by decide +kernel) rfl zq_415 zq_66 (by decide +kernel) zMk_35 (by decide +kernel) (by decide +kernel) (by decide +kernel)
theorem zr_139_112 : zSnd 139 112 (o_istore 4 114) := zS_istore (by decide +kernel) rfl (by decide +kernel)
theorem zr_139_114 : zSnd 139 114 (o_aload 0 115) := zS_aload_n (i := 0) (by decide +kernel) rfl rfl
theorem zr_139_115 : zSnd 139 115 (o_iload 2 116) := zS_iload_n (i := 2) (by decide +kernel) rfl rfl
theorem zr_139_116 : zSnd 139 116 (o_aload 0 117) := zS_aload_n (i := 0) (by decide +kernel) rfl rfl
theorem zr_139_117 : zSnd 139 117 (o_getf 3 0 120) := zS_getf (idx := 12) (by decide +kernel) rfl (by decide) rfl (by decide) rfl zin_3 zq_397
theorem zr_139_120 : zSnd 139 120 (o_iload 4 122) := zS_iload (by decide +kernel) rfl
theorem zr_139_122 : zSnd 139 122 (o_aload 0 123) := zS_aload_n (i := 0) (by decide +kernel) rfl rfl
theorem zr_139_123 : zSnd 139 123 (o_iload 2 124) := zS_iload_n (i := 2) (by decide +kernel) rfl rfl
theorem zr_139_124 : zSnd 139 124 (o_iload 3 125) := zS_iload_n (i := 3) (by decide +kernel) rfl rfl
theorem zr_139_125 : zSnd 139 125 (o_callv 3 140 3 5 1 128) := zS_callV (n := 2) (idx := 80) (by decide +kernel) rfl rfl (by decide) rfl zq_421 zq_422 zq_423 (by decide +kernel) zMk_140 (by decide +kernel) (by decide +kernel) (by decide +kernel)
theorem zr_139_128 : zSnd 139 128 (o_callv 4 163 3 7 1 131) := zS_callVN (n := 2) (idx := 83) (by decide +kernel) rfl rfl (by decide) rfl zq_424 zq_425 zq_426 (by decide +kernel) zMk_163 (by decide +kernel) (by decide +kernel) (by decide +kernel)
theorem zr_139_131 : zSnd 139 131 (o_callv 3 142 3 5 0 134) := zS_callV (n := 2) (idx := 77) (by decide +kernel) rfl rfl (by decide) rfl zq_418 zq_419 zq_420 (by decide +kernel) zMk_142 (by decide +kernel) (by decide +kernel) (by decide +kernel)
theorem zr_139_134 : zSnd 139 134 (o_iinc 1 1 137) := zS_iinc (by decide +kernel) rfl (by decide +kernel)
theorem zr_139_137 : zSnd 139 137 (o_goto 6) := zS_goto (by decide +kernel : decode (zmB 139) 137 = .ok (.goto (-131), 3)) (by decide)
theorem zr_139_140 : zSnd 139 140 (o_ret) := zS_ret (by decide +kernel) (by decide +kernel)
theorem zT_139 (pc : Nat) : zSnd 139 pc (zc_139 pc) := by
  unfold zc_139
  exact (zSn_nd (zSn_nd (zSn_nd (zSn_nd (zSn_nd (zSn_nd (zSn_lf zr_139_0) (zSn_lf zr_139_1)) (zSn_nd (zSn_lf zr_139_4) (zSn_lf zr_139_5))) (zSn_nd (zSn_nd (zSn_lf zr_139_6) (zSn_lf zr_139_7)) (zSn_nd (zSn_lf zr_139_9) (zSn_nd (zSn_lf zr_139_12) (zSn_lf zr_139_13))))) (zSn_nd (zSn_nd (zSn_nd (zSn_lf zr_139_14) (zSn_lf zr_139_15)) (zSn_nd (zSn_lf zr_139_16) (zSn_nd (zSn_lf zr_139_17) (zSn_lf zr_139_19)))) (zSn_nd (zSn_nd (zSn_lf zr_139_21) (zSn_lf zr_139_22)) (zSn_nd (zSn_lf zr_139_25) (zSn_nd (zSn_lf zr_139_28) (zSn_lf zr_139_31)))))) (zSn_nd (zSn_nd (zSn_nd (zSn_nd (zSn_lf zr_139_32) (zSn_lf zr_139_35)) (zSn_nd (zSn_lf zr_139_37) (zSn_lf zr_139_38))) (zSn_nd (zSn_nd (zSn_lf zr_139_39) (zSn_lf zr_139_42)) (zSn_nd (zSn_lf zr_139_45) (zSn_nd (zSn_lf zr_139_47) (zSn_lf zr_139_48))))) (zSn_nd (zSn_nd (zSn_nd (zSn_lf zr_139_51) (zSn_lf zr_139_52)) (zSn_nd (zSn_lf zr_139_55) (zSn_nd (zSn_lf zr_139_58) (zSn_lf zr_139_60)))) (zSn_nd (zSn_nd (zSn_lf zr_139_61) (zSn_lf zr_139_64)) (zSn_nd (zSn_lf zr_139_66) (zSn_nd (zSn_lf zr_139_67) (zSn_lf zr_139_70))))))) (zSn_nd (zSn_nd (zSn_nd (zSn_nd (zSn_nd (zSn_lf zr_139_71) (zSn_lf zr_139_73)) (zSn_nd (zSn_lf zr_139_74) (zSn_lf zr_139_75))) (zSn_nd (zSn_nd (zSn_lf zr_139_78) (zSn_lf zr_139_80)) (zSn_nd (zSn_lf zr_139_81) (zSn_nd (zSn_lf zr_139_84) (zSn_lf zr_139_86))))) (zSn_nd (zSn_nd (zSn_nd (zSn_lf zr_139_87) (zSn_lf zr_139_89)) (zSn_nd (zSn_lf zr_139_90) (zSn_nd (zSn_lf zr_139_93) (zSn_lf zr_139_96)))) (zSn_nd (zSn_nd (zSn_lf zr_139_97) (zSn_lf zr_139_98)) (zSn_nd (zSn_lf zr_139_101) (zSn_nd (zSn_lf zr_139_102) (zSn_lf zr_139_103)))))) (zSn_nd (zSn_nd (zSn_nd (zSn_nd (zSn_lf zr_139_104) (zSn_lf zr_139_107)) (zSn_nd (zSn_lf zr_139_108) (zSn_lf zr_139_109))) (zSn_nd (zSn_nd (zSn_lf zr_139_112) (zSn_lf zr_139_114)) (zSn_nd (zSn_lf zr_139_115) (zSn_nd (zSn_lf zr_139_116) (zSn_lf zr_139_117))))) (zSn_nd (zSn_nd (zSn_nd (zSn_lf zr_139_120) (zSn_lf zr_139_122)) (zSn_nd (zSn_lf zr_139_123) (zSn_nd (zSn_lf zr_139_124) (zSn_lf zr_139_125)))) (zSn_nd (zSn_nd (zSn_lf zr_139_128) (zSn_lf zr_139_131)) (zSn_nd (zSn_lf zr_139_134) (zSn_nd (zSn_lf zr_139_137) (zSn_lf zr_139_140))))))))
theorem zr_140_0 : zSnd 140 0 (o_iload 1 1) := zS_iload_n (i := 1) (by decide +kernel) rfl rfl
theorem zr_140_1 : zSnd 140 1 (o_aload 0 2) := zS_aload_n (i := 0) (by decide +kernel) rfl rfl
theorem zr_140_2 : zSnd 140 2 (o_getf 3 2 5) := zS_getf (idx := 22) (by decide +kernel) rfl (by decide) rfl (by decide) rfl zin_3 zq_412
theorem zr_140_5 : zSnd 140 5 (o_iload 1 6) := zS_iload_n (i := 1) (by decide +kernel) rfl rfl
theorem zr_140_6 : zSnd 140 6 (o_iald 7) := zS_iald (by decide +kernel) rfl
theorem zr_140_7 : zSnd 140 7 (o_call 35 2 2 1 10) := zS_callSN (idx := 66) (by decide +kernel) rfl zq_415 zq_66 (by decide +kernel) zMk_35 (by decide +kernel) (by decide +kernel) (by decide +kernel)
theorem zr_140_10 : zSnd 140 10 (o_istore 3 11) := zS_istore_n (i := 3) (by decide +kernel) rfl rfl (by decide +kernel)
theorem zr_140_11 : zSnd 140 11 (o_iload 2 12) := zS_iload_n (i := 2) (by decide +kernel) rfl rfl
theorem zr_140_12 : zSnd 140 12 (o_aload 0 13) := zS_aload_n (i := 0) (by decide +kernel) rfl rfl
theorem zr_140_13 : zSnd 140 13 (o_aload 0 14) := zS_aload_n (i := 0) (by decide +kernel) rfl rfl
theorem zr_140_14 : zSnd 140 14 (o_getf 3 0 17) := zS_getf (idx := 12) (by decide +kernel) rfl (by decide) rfl (by decide) rfl zin_3 zq_397
theorem zr_140_17 : zSnd 140 17 (o_getf 4 5 20) := zS_getfN (idx := 92) (by decide +kernel) rfl (by decide) rfl (by decide) rfl zin_4 zq_431
theorem zr_140_20 : zSnd 140 20 (o_iload 3 21) := zS_iload_n (i := 3) (by decide +kernel) rfl rfl
theorem zr_140_21 : zSnd 140 21 (o_iald 22) := zS_iald (by decide +kernel) rfl
theorem zr_140_22 : zSnd 140 22 (o_callv 3 141 2 2 1 25) := zS_callV (n := 1) (idx := 95) (by decide +kernel) rfl rfl (by decide) rfl zq_432 zq_433 zq_434 (by decide +kernel) zMk_141 (by decide +kernel) (by decide +kernel) (by decide +kernel)
theorem zr_140_25 : zSnd 140 25 (o_max 28) := zS_max (idx := 99) (by decide +kernel) rfl zq_435 zq_355 zq_115 zq_356 (by decide +kernel)
theorem zr_140_28 : zSnd 140 28 (o_istore 4 30) := zS_istore (by decide +kernel) rfl (by decide +kernel)
theorem zr_140_30 : zSnd 140 30 (o_aload 0 31) := zS_aload_n (i := 0) (by decide +kernel) rfl rfl
theorem zr_140_31 : zSnd 140 31 (o_getf 3 2 34) := zS_getf (idx := 22) (by decide +kernel) rfl (by decide) rfl (by decide) rfl zin_3 zq_412
theorem zr_140_34 : zSnd 140 34 (o_iload 1 35) := zS_iload_n (i := 1) (by decide +kernel) rfl rfl
theorem zr_140_35 : zSnd 140 35 (o_iald 36) := zS_iald (by decide +kernel) rfl
theorem zr_140_36 : zSnd 140 36 (o_ifle 66 39) := zS_ifle (by decide +kernel : decode (zmB 140) 36 = .ok (.ifCond .le 30, 3)) rfl (by decide)
theorem zr_140_39 : zSnd 140 39 (o_iload 4 41) := zS_iload (by decide +kernel) rfl
theorem zr_140_41 : zSnd 140 41 (o_aload 0 42) := zS_aload_n (i := 0) (by decide +kernel) rfl rfl
theorem zr_140_42 : zSnd 140 42 (o_getf 3 1 45) := zS_getf (idx := 18) (by decide +kernel) rfl (by decide) rfl (by decide) rfl zin_3 zq_392
theorem zr_140_45 : zSnd 140 45 (o_iload 3 46) := zS_iload_n (i := 3) (by decide +kernel) rfl rfl
theorem zr_140_46 : zSnd 140 46 (o_const 1 47) := zS_iconst (by decide +kernel) rfl (by decide)
theorem zr_140_47 : zSnd 140 47 (o_isub 48) := zS_isub (by decide +kernel) rfl
theorem zr_140_48 : zSnd 140 48 (o_iald 49) := zS_iald (by decide +kernel) rfl
theorem zr_140_49 : zSnd 140 49 (o_aload 0 50) := zS_aload_n (i := 0) (by decide +kernel) rfl rfl
theorem zr_140_50 : zSnd 140 50 (o_getf 3 0 53) := zS_getf (idx := 12) (by decide +kernel) rfl (by decide) rfl (by decide) rfl zin_3 zq_397
theorem zr_140_53 : zSnd 140 53 (o_getf 4 6 56) := zS_getfN (idx := 104) (by decide +kernel) rfl (by decide) rfl (by decide) rfl zin_4 zq_436
theorem zr_140_56 : zSnd 140 56 (o_iload 3 57) := zS_iload_n (i := 3) (by decide +kernel) rfl rfl
theorem zr_140_57 : zSnd 140 57 (o_const 1 58) := zS_iconst (by decide +kernel) rfl (by decide)
theorem zr_140_58 : zSnd 140 58 (o_isub 59) := zS_isub (by decide +kernel) rfl
theorem zr_140_59 : zSnd 140 59 (o_iald 60) := zS_iald (by decide +kernel) rfl
theorem zr_140_60 : zSnd 140 60 (o_iadd 61) := zS_iadd (by decide +kernel) rfl
theorem zr_140_61 : zSnd 140 61 (o_max 64) := zS_max (idx := 99) (by decide +kernel) rfl zq_435 zq_355 zq_115 zq_356 (by decide +kernel)
theorem zr_140_64 : zSnd 140 64 (o_istore 4 66) := zS_istore (by decide +kernel) rfl (by decide +kernel)
theorem zr_140_66 : zSnd 140 66 (o_iload 4 68) := zS_iload (by decide +kernel) rfl
theorem zr_140_68 : zSnd 140 68 (o_iret) := zS_iret (by decide +kernel) (by decide +kernel)
theorem zT_140 (pc : Nat) : zSnd 140 pc (zc_140 pc) := by
  unfold zc_140
  exact (zSn_nd (zSn_nd (zSn_nd (zSn_nd (zSn_nd (zSn_lf zr_140_0) (zSn_lf zr_140_1)) (zSn_nd (zSn_lf zr_140_2) (zSn_nd (zSn_lf zr_140_5) (zSn_lf zr_140_6)))) (zSn_nd (zSn_nd (zSn_lf zr_140_7) (zSn_lf zr_140_10)) (zSn_nd (zSn_lf zr_140_11) (zSn_nd (zSn_lf zr_140_12) (zSn_lf zr_140_13))))) (zSn_nd (zSn_nd (zSn_nd (zSn_lf zr_140_14) (zSn_lf zr_140_17)) (zSn_nd (zSn_lf zr_140_20) (zSn_nd (zSn_lf zr_140_21) (zSn_lf zr_140_22)))) (zSn_nd (zSn_nd (zSn_lf zr_140_25) (zSn_lf zr_140_28)) (zSn_nd (zSn_lf zr_140_30) (zSn_nd (zSn_lf zr_140_31) (zSn_lf zr_140_34)))))) (zSn_nd (zSn_nd (zSn_nd (zSn_nd (zSn_lf zr_140_35) (zSn_lf zr_140_36)) (zSn_nd (zSn_lf zr_140_39) (zSn_nd (zSn_lf zr_140_41) (zSn_lf zr_140_42)))) (zSn_nd (zSn_nd (zSn_lf zr_140_45) (zSn_lf zr_140_46)) (zSn_nd (zSn_lf zr_140_47) (zSn_nd (zSn_lf zr_140_48) (zSn_lf zr_140_49))))) (zSn_nd (zSn_nd (zSn_nd (zSn_lf zr_140_50) (zSn_lf zr_140_53)) (zSn_nd (zSn_lf zr_140_56) (zSn_nd (zSn_lf zr_140_57) (zSn_lf zr_140_58)))) (zSn_nd (zSn_nd (zSn_lf zr_140_59) (zSn_nd (zSn_lf zr_140_60) (zSn_lf zr_140_61))) (zSn_nd (zSn_lf zr_140_64) (zSn_nd (zSn_lf zr_140_66) (zSn_lf zr_140_68)))))))
theorem zr_141_0 : zSnd 141 0 (o_iload 1 1) := zS_iload_n (i := 1) (by decide +kernel) rfl rfl
theorem zr_141_1 : zSnd 141 1 (o_iflt 18 4) := zS_iflt (by decide +kernel : decode (zmB 141) 1 = .ok (.ifCond .lt 17, 3)) rfl (by decide)
theorem zr_141_4 : zSnd 141 4 (o_iload 1 5) := zS_iload_n (i := 1) (by decide +kernel) rfl rfl
theorem zr_141_5 : zSnd 141 5 (o_const 5 6) := zS_iconst (by decide +kernel) rfl (by decide)
theorem zr_141_6 : zSnd 141 6 (o_cge 18 9) := zS_cge (by decide +kernel : decode (zmB 141) 6 = .ok (.if_icmp .ge 12, 3)) rfl (by decide)
theorem zr_141_9 : zSnd 141 9 (o_aload 0 10) := zS_aload_n (i := 0) (by decide +kernel) rfl rfl
theorem zr_141_10 : zSnd 141 10 (o_getf 3 3 13) := zS_getf (idx := 25) (by decide +kernel) rfl (by decide) rfl (by decide) rfl zin_3 zq_413
theorem zr_141_13 : zSnd 141 13 (o_iload 1 14) := zS_iload_n (i := 1) (by decide +kernel) rfl rfl
theorem zr_141_14 : zSnd 141 14 (o_iald 15) := zS_iald (by decide +kernel) rfl
theorem zr_141_15 : zSnd 141 15 (o_goto 19) := zS_goto (by decide +kernel : decode (zmB 141) 15 = .ok (.goto 4, 3)) (by decide)
theorem zr_141_18 : zSnd 141 18 (o_const 0 19) := zS_iconst (by decide +kernel) rfl (by decide)
theorem zr_141_19 : zSnd 141 19 (o_iret) := zS_iret (by decide +kernel) (by decide +kernel)
theorem zT_141 (pc : Nat) : zSnd 141 pc (zc_141 pc) := by
  unfold zc_141
  exact (zSn_nd (zSn_nd (zSn_nd (zSn_lf zr_141_0) (zSn_nd (zSn_lf zr_141_1) (zSn_lf zr_141_4))) (zSn_nd (zSn_lf zr_141_5) (zSn_nd (zSn_lf zr_141_6) (zSn_lf zr_141_9)))) (zSn_nd (zSn_nd (zSn_lf zr_141_10) (zSn_nd (zSn_lf zr_141_13) (zSn_lf zr_141_14))) (zSn_nd (zSn_lf zr_141_15) (zSn_nd (zSn_lf zr_141_18) (zSn_lf zr_141_19)))))
theorem zr_142_0 : zSnd 142 0 (o_iload 1 1) := zS_iload_n (i := 1) (by decide +kernel) rfl rfl
theorem zr_142_1 : zSnd 142 1 (o_aload 0 2) := zS_aload_n (i := 0) (by decide +kernel) rfl rfl
theorem zr_142_2 : zSnd 142 2 (o_getf 3 2 5) := zS_getf (idx := 22) (by decide +kernel) rfl (by decide) rfl (by decide) rfl zin_3 zq_412
theorem zr_142_5 : zSnd 142 5 (o_iload 1 6) := zS_iload_n (i := 1) (by decide +kernel) rfl rfl
theorem zr_142_6 : zSnd 142 6 (o_iald 7) := zS_iald (by decide +kernel) rfl
theorem zr_142_7 : zSnd 142 7 (o_call 35 2 2 1 10) := zS_callSN (idx := 66) (by decide +kernel) rfl zq_415 zq_66 (by decide +kernel) zMk_35 (by decide +kernel) (by decide +kernel) (by decide +kernel)
theorem zr_142_10 : zSnd 142 10 (o_istore 3 11) := zS_istore_n (i := 3) (by decide +kernel) rfl rfl (by decide +kernel)
theorem zr_142_11 : zSnd 142 11 (o_aload 0 12) := zS_aload_n (i := 0) (by decide +kernel) rfl rfl
theorem zr_142_12 : zSnd 142 12 (o_getf 3 0 15) := zS_getf (idx := 12) (by decide +kernel) rfl (by decide) rfl (by decide) rfl zin_3 zq_397
theorem zr_142_15 : zSnd 142 15 (o_getf 4 5 18) := zS_getfN (idx := 92) (by decide +kernel) rfl (by decide) rfl (by decide) rfl zin_4 zq_431
theorem zr_142_18 : zSnd 142 18 (o_iload 3 19) := zS_iload_n (i := 3) (by decide +kernel) rfl rfl
theorem zr_142_19 : zSnd 142 19 (o_iald 20) := zS_iald (by decide +kernel) rfl
theorem zr_142_20 : zSnd 142 20 (o_istore 4 22) := zS_istore (by decide +kernel) rfl (by decide +kernel)
theorem zr_142_22 : zSnd 142 22 (o_aload 0 23) := zS_aload_n (i := 0) (by decide +kernel) rfl rfl
theorem zr_142_23 : zSnd 142 23 (o_getf 3 1 26) := zS_getf (idx := 18) (by decide +kernel) rfl (by decide) rfl (by decide) rfl zin_3 zq_392
theorem zr_142_26 : zSnd 142 26 (o_iload 3 27) := zS_iload_n (i := 3) (by decide +kernel) rfl rfl
theorem zr_142_27 : zSnd 142 27 (o_iload 2 28) := zS_iload_n (i := 2) (by decide +kernel) rfl rfl
theorem zr_142_28 : zSnd 142 28 (o_iast 29) := zS_iast (by decide +kernel) rfl
theorem zr_142_29 : zSnd 142 29 (o_iload 4 31) := zS_iload (by decide +kernel) rfl
theorem zr_142_31 : zSnd 142 31 (o_iflt 68 34) := zS_iflt (by decide +kernel : decode (zmB 142) 31 = .ok (.ifCond .lt 37, 3)) rfl (by decide)
theorem zr_142_34 : zSnd 142 34 (o_iload 4 36) := zS_iload (by decide +kernel) rfl
theorem zr_142_36 : zSnd 142 36 (o_const 5 37) := zS_iconst (by decide +kernel) rfl (by decide)
theorem zr_142_37 : zSnd 142 37 (o_cge 68 40) := zS_cge (by decide +kernel : decode (zmB 142) 37 = .ok (.if_icmp .ge 31, 3)) rfl (by decide)
theorem zr_142_40 : zSnd 142 40 (o_aload 0 41) := zS_aload_n (i := 0) (by decide +kernel) rfl rfl
theorem zr_142_41 : zSnd 142 41 (o_getf 3 3 44) := zS_getf (idx := 25) (by decide +kernel) rfl (by decide) rfl (by decide) rfl zin_3 zq_413
theorem zr_142_44 : zSnd 142 44 (o_iload 4 46) := zS_iload (by decide +kernel) rfl
theorem zr_142_46 : zSnd 142 46 (o_aload 0 47) := zS_aload_n (i := 0) (by decide +kernel) rfl rfl
theorem zr_142_47 : zSnd 142 47 (o_getf 3 3 50) := zS_getf (idx := 25) (by decide +kernel) rfl (by decide) rfl (by decide) rfl zin_3 zq_413
theorem zr_142_50 : zSnd 142 50 (o_iload 4 52) := zS_iload (by decide +kernel) rfl
theorem zr_142_52 : zSnd 142 52 (o_iald 53) := zS_iald (by decide +kernel) rfl
theorem zr_142_53 : zSnd 142 53 (o_iload 2 54) := zS_iload_n (i := 2) (by decide +kernel) rfl rfl
theorem zr_142_54 : zSnd 142 54 (o_aload 0 55) := zS_aload_n (i := 0) (by decide +kernel) rfl rfl
theorem zr_142_55 : zSnd 142 55 (o_getf 3 0 58) := zS_getf (idx := 12) (by decide +kernel) rfl (by decide) rfl (by decide) rfl zin_3 zq_397
theorem zr_142_58 : zSnd 142 58 (o_getf 4 6 61) := zS_getfN (idx := 104) (by decide +kernel) rfl (by decide) rfl (by decide) rfl zin_4 zq_436
theorem zr_142_61 : zSnd 142 61 (o_iload 3 62) := zS_iload_n (i := 3) (by decide +kernel) rfl rfl
theorem zr_142_62 : zSnd 142 62 (o_iald 63) := zS_iald (by decide +kernel) rfl
theorem zr_142_63 : zSnd 142 63 (o_iadd 64) := zS_iadd (by decide +kernel) rfl
theorem zr_142_64 : zSnd 142 64 (o_max 67) := zS_max (idx := 99) (by decide +kernel) rfl zq_435 zq_355 zq_115 zq_356 (by decide +kernel)
theorem zr_142_67 : zSnd 142 67 (o_iast 68) := zS_iast (by decide +kernel) rfl
theorem zr_142_68 : zSnd 142 68 (o_aload 0 69) := zS_aload_n (i := 0) (by decide +kernel) rfl rfl
theorem zr_142_69 : zSnd 142 69 (o_getf 3 2 72) := zS_getf (idx := 22) (by decide +kernel) rfl (by decide) rfl (by decide) rfl zin_3 zq_412
theorem zr_142_72 : zSnd 142 72 (o_iload 1 73) := zS_iload_n (i := 1) (by decide +kernel) rfl rfl
theorem zr_142_73 : zSnd 142 73 (o_dup2 74) := zS_dup2 (by decide +kernel) rfl
theorem zr_142_74 : zSnd 142 74 (o_iald 75) := zS_iald (by decide +kernel) rfl
theorem zr_142_75 : zSnd 142 75 (o_const 1 76) := zS_iconst (by decide +kernel) rfl (by decide)
theorem zr_142_76 : zSnd 142 76 (o_iadd 77) := zS_iadd (by decide +kernel) rfl
theorem zr_142_77 : zSnd 142 77 (o_iast 78) := zS_iast (by decide +kernel) rfl
theorem zr_142_78 : zSnd 142 78 (o_ret) := zS_ret (by decide +kernel) (by decide +kernel)
theorem zT_142 (pc : Nat) : zSnd 142 pc (zc_142 pc) := by
  unfold zc_142
  exact (zSn_nd (zSn_nd (zSn_nd (zSn_nd (zSn_nd (zSn_lf zr_142_0) (zSn_nd (zSn_lf zr_142_1) (zSn_lf zr_142_2))) (zSn_nd (zSn_lf zr_142_5) (zSn_nd (zSn_lf zr_142_6) (zSn_lf zr_142_7)))) (zSn_nd (zSn_nd (zSn_lf zr_142_10) (zSn_nd (zSn_lf zr_142_11) (zSn_lf zr_142_12))) (zSn_nd (zSn_lf zr_142_15) (zSn_nd (zSn_lf zr_142_18) (zSn_lf zr_142_19))))) (zSn_nd (zSn_nd (zSn_nd (zSn_lf zr_142_20) (zSn_nd (zSn_lf zr_142_22) (zSn_lf zr_142_23))) (zSn_nd (zSn_lf zr_142_26) (zSn_nd (zSn_lf zr_142_27) (zSn_lf zr_142_28)))) (zSn_nd (zSn_nd (zSn_lf zr_142_29) (zSn_nd (zSn_lf zr_142_31) (zSn_lf zr_142_34))) (zSn_nd (zSn_lf zr_142_36) (zSn_nd (zSn_lf zr_142_37) (zSn_lf zr_142_40)))))) (zSn_nd (zSn_nd (zSn_nd (zSn_nd (zSn_lf zr_142_41) (zSn_nd (zSn_lf zr_142_44) (zSn_lf zr_142_46))) (zSn_nd (zSn_lf zr_142_47) (zSn_nd (zSn_lf zr_142_50) (zSn_lf zr_142_52)))) (zSn_nd (zSn_nd (zSn_lf zr_142_53) (zSn_nd (zSn_lf zr_142_54) (zSn_lf zr_142_55))) (zSn_nd (zSn_lf zr_142_58) (zSn_nd (zSn_lf zr_142_61) (zSn_lf zr_142_62))))) (zSn_nd (zSn_nd (zSn_nd (zSn_lf zr_142_63) (zSn_nd (zSn_lf zr_142_64) (zSn_lf zr_142_67))) (zSn_nd (zSn_lf zr_142_68) (zSn_nd (zSn_lf zr_142_69) (zSn_lf zr_142_72)))) (zSn_nd (zSn_nd (zSn_lf zr_142_73) (zSn_nd (zSn_lf zr_142_74) (zSn_lf zr_142_75))) (zSn_nd (zSn_lf zr_142_76) (zSn_nd (zSn_lf zr_142_77) (zSn_lf zr_142_78)))))))
theorem zr_143_0 : zSnd 143 0 (o_iload 2 1) := zS_iload_n (i := 2) (by decide +kernel) rfl rfl
theorem zr_143_1 : zSnd 143 1 (o_sw [(0, 28), (1, 47), (2, 57)] 68) := zS_tsw (n := 3) (by decide +kernel : decode (zmB 143) 1 = .ok (.tableswitch 67 0 2 #[27, 46, 56], 27)) (by decide) (by decide +kernel) (by intro x hx; simp only [zsw]; (repeat' split) <;> omega) (by decide)
theorem zr_143_28 : zSnd 143 28 (o_aload 0 29) := zS_aload_n (i := 0) (by decide +kernel) rfl rfl
theorem zr_143_29 : zSnd 143 29 (o_getf 3 0 32) := zS_getf (idx := 12) (by decide +kernel) rfl (by decide) rfl (by decide) rfl zin_3 zq_397
theorem zr_143_32 : zSnd 143 32 (o_getf 4 6 35) := zS_getfN (idx := 104) (by decide +kernel) rfl (by decide) rfl (by decide) rfl zin_4 zq_436
theorem zr_143_35 : zSnd 143 35 (o_iload 1 36) := zS_iload_n (i := 1) (by decide +kernel) rfl rfl
theorem zr_143_36 : zSnd 143 36 (o_aload 0 37) := zS_aload_n (i := 0) (by decide +kernel) rfl rfl
theorem zr_143_37 : zSnd 143 37 (o_getf 3 2 40) := zS_getf (idx := 22) (by decide +kernel) rfl (by decide) rfl (by decide) rfl zin_3 zq_412
theorem zr_143_40 : zSnd 143 40 (o_iload 1 41) := zS_iload_n (i := 1) (by decide +kernel) rfl rfl
theorem zr_143_41 : zSnd 143 41 (o_iald 42) := zS_iald (by decide +kernel) rfl
theorem zr_143_42 : zSnd 143 42 (o_call 35 2 2 1 45) := zS_callSN (idx := 66) (by decide +kernel) rfl zq_415 zq_66 (by decide +kernel) zMk_35 (by decide +kernel) (by decide +kernel) (by decide +kernel)
theorem zr_143_45 : zSnd 143 45 (o_iald 46) := zS_iald (by decide +kernel) rfl
theorem zr_143_46 : zSnd 143 46 (o_iret) := zS_iret (by decide +kernel) (by decide +kernel)
theorem zr_143_47 : zSnd 143 47 (o_aload 0 48) := zS_aload_n (i := 0) (by decide +kernel) rfl rfl
theorem zr_143_48 : zSnd 143 48 (o_getf 3 0 51) := zS_getf (idx := 12) (by decide +kernel) rfl (by decide) rfl (by decide) rfl zin_3 zq_397
theorem zr_143_51 : zSnd 143 51 (o_getf 4 3 54) := zS_getfN (idx := 107) (by decide +kernel) rfl (by decide) rfl (by decide) rfl zin_4 zq_437
theorem zr_143_54 : zSnd 143 54 (o_iload 1 55) := zS_iload_n (i := 1) (by decide +kernel) rfl rfl
theorem zr_143_55 : zSnd 143 55 (o_iald 56) := zS_iald (by decide +kernel) rfl
theorem zr_143_56 : zSnd 143 56 (o_iret) := zS_iret (by decide +kernel) (by decide +kernel)
theorem zr_143_57 : zSnd 143 57 (o_aload 0 58) := zS_aload_n (i := 0) (by decide +kernel) rfl rfl
theorem zr_143_58 : zSnd 143 58 (o_getf 3 0 61) := zS_getf (idx := 12) (by decide +kernel) rfl (by decide) rfl (by decide) rfl zin_3 zq_397
theorem zr_143_61 : zSnd 143 61 (o_getf 4 2 64) := zS_getfN (idx := 110) (by decide +kernel) rfl (by decide) rfl (by decide) rfl zin_4 zq_438
theorem zr_143_64 : zSnd 143 64 (o_iload 1 65) := zS_iload_n (i := 1) (by decide +kernel) rfl rfl
theorem zr_143_65 : zSnd 143 65 (o_iald 66) := zS_iald (by decide +kernel) rfl
theorem zr_143_66 : zSnd 143 66 (o_ineg 67) := zS_ineg (by decide +kernel) rfl
theorem zr_143_67 : zSnd 143 67 (o_iret) := zS_iret (by decide +kernel) (by decide +kernel)
theorem zr_143_68 : zSnd 143 68 (o_aload 0 69) := zS_aload_n (i := 0) (by decide +kernel) rfl rfl
theorem zr_143_69 : zSnd 143 69 (o_getf 3 0 72) := zS_getf (idx := 12) (by decide +kernel) rfl (by decide) rfl (by decide) rfl zin_3 zq_397
theorem zr_143_72 : zSnd 143 72 (o_getf 4 4 75) := zS_getfN (idx := 63) (by decide +kernel) rfl (by decide) rfl (by decide) rfl zin_4 zq_414
theorem zr_143_75 : zSnd 143 75 (o_iload 1 76) := zS_iload_n (i := 1) (by decide +kernel) rfl rfl
theorem zr_143_76 : zSnd 143 76 (o_iald 77) := zS_iald (by decide +kernel) rfl
theorem zr_143_77 : zSnd 143 77 (o_aload 0 78) := zS_aload_n (i := 0) (by decide +kernel) rfl rfl
theorem zr_143_78 : zSnd 143 78 (o_getf 3 2 81) := zS_getf (idx := 22) (by decide +kernel) rfl (by decide) rfl (by decide) rfl zin_3 zq_412
theorem zr_143_81 : zSnd 143 81 (o_iload 1 82) := zS_iload_n (i := 1) (by decide +kernel) rfl rfl
theorem zr_143_82 : zSnd 143 82 (o_iald 83) := zS_iald (by decide +kernel) rfl
theorem zr_143_83 : zSnd 143 83 (o_isub 84) := zS_isub (by decide +kernel) rfl
theorem zr_143_84 : zSnd 143 84 (o_iret) := zS_iret (by decide +kernel) (by decide +kernel)
theorem zT_143 (pc : Nat) : zSnd 143 pc (zc_143 pc) := by
  unfold zc_143
  exact (zSn_nd (zSn_nd (zSn_nd (zSn_nd (zSn_nd (zSn_lf zr_143_0) (zSn_lf zr_143_1)) (zSn_nd (zSn_lf zr_143_28) (zSn_lf zr_143_29))) (zSn_nd (zSn_nd (zSn_lf zr_143_32) (zSn_lf zr_143_35)) (zSn_nd (zSn_lf zr_143_36) (zSn_nd (zSn_lf zr_143_37) (zSn_lf zr_143_40))))) (zSn_nd (zSn_nd (zSn_nd (zSn_lf zr_143_41) (zSn_lf zr_143_42)) (zSn_nd (zSn_lf zr_143_45) (zSn_lf zr_143_46))) (zSn_nd (zSn_nd (zSn_lf zr_143_47) (zSn_lf zr_143_48)) (zSn_nd (zSn_lf zr_143_51) (zSn_nd (zSn_lf zr_143_54) (zSn_lf zr_143_55)))))) (zSn_nd (zSn_nd (zSn_nd (zSn_nd (zSn_lf zr_143_56) (zSn_lf zr_143_57)) (zSn_nd (zSn_lf zr_143_58) (zSn_lf zr_143_61))) (zSn_nd (zSn_nd (zSn_lf zr_143_64) (zSn_lf zr_143_65)) (zSn_nd (zSn_lf zr_143_66) (zSn_nd (zSn_lf zr_143_67) (zSn_lf zr_143_68))))) (zSn_nd (zSn_nd (zSn_nd (zSn_lf zr_143_69) (zSn_lf zr_143_72)) (zSn_nd (zSn_lf zr_143_75) (zSn_nd (zSn_lf zr_143_76) (zSn_lf zr_143_77)))) (zSn_nd (zSn_nd (zSn_lf zr_143_78) (zSn_lf zr_143_81)) (zSn_nd (zSn_lf zr_143_82) (zSn_nd (zSn_lf zr_143_83) (zSn_lf zr_143_84)))))))
theorem zr_144_0 : zSnd 144 0 (o_aload 0 1) := zS_aload_n (i := 0) (by decide +kernel) rfl rfl
theorem zr_144_1 : zSnd 144 1 (o_iload 1 2) := zS_iload_n (i := 1) (by decide +kernel) rfl rfl
theorem zr_144_2 : zSnd 144 2 (o_putf 4 0 5) := zS_putf (idx := 42) (by decide +kernel) rfl (by decide) rfl (by decide) rfl zin_4 tyX3_ok nmX3 rfl (by decide +kernel) zq_439
theorem zr_144_5 : zSnd 144 5 (o_aload 0 6) := zS_aload_n (i := 0) (by decide +kernel) rfl rfl
theorem zr_144_6 : zSnd 144 6 (o_const 0 7) := zS_iconst (by decide +kernel) rfl (by decide)
theorem zr_144_7 : zSnd 144 7 (o_putf 4 1 10) := zS_putf (idx := 46) (by decide +kernel) rfl (by decide) rfl (by decide) rfl zin_4 tyX3_ok nmX3 rfl (by decide +kernel) zq_440
theorem zr_144_10 : zSnd 144 10 (o_aload 0 11) := zS_aload_n (i := 0) (by decide +kernel) rfl rfl
theorem zr_144_11 : zSnd 144 11 (o_const 0 12) := zS_iconst (by decide +kernel) rfl (by decide)
theorem zr_144_12 : zSnd 144 12 (o_putf 4 7 15) := zS_putf (idx := 49) (by decide +kernel) rfl (by decide) rfl (by decide) rfl zin_4 tyX3_ok nmX3 rfl (by decide +kernel) zq_441
theorem zr_144_15 : zSnd 144 15 (o_aload 0 16) := zS_aload_n (i := 0) (by decide +kernel) rfl rfl
theorem zr_144_16 : zSnd 144 16 (o_const 0 17) := zS_iconst (by decide +kernel) rfl (by decide)
theorem zr_144_17 : zSnd 144 17 (o_putz 4 11 20) := zS_putz (idx := 52) (by decide +kernel) rfl (by decide) rfl (by decide) rfl zin_4 tyX3_ok nmX3 rfl (by decide +kernel) zq_442
theorem zr_144_20 : zSnd 144 20 (o_aload 0 21) := zS_aload_n (i := 0) (by decide +kernel) rfl rfl
theorem zr_144_21 : zSnd 144 21 (o_const 0 22) := zS_iconst (by decide +kernel) rfl (by decide)
theorem zr_144_22 : zSnd 144 22 (o_putf 4 14 25) := zS_putf (idx := 56) (by decide +kernel) rfl (by decide) rfl (by decide) rfl zin_4 tyX3_ok nmX3 rfl (by decide +kernel) zq_443
theorem zr_144_25 : zSnd 144 25 (o_ret) := zS_ret (by decide +kernel) (by decide +kernel)
theorem zT_144 (pc : Nat) : zSnd 144 pc (zc_144 pc) := by
  unfold zc_144
  exact (zSn_nd (zSn_nd (zSn_nd (zSn_nd (zSn_lf zr_144_0) (zSn_lf zr_144_1)) (zSn_nd (zSn_lf zr_144_2) (zSn_lf zr_144_5))) (zSn_nd (zSn_nd (zSn_lf zr_144_6) (zSn_lf zr_144_7)) (zSn_nd (zSn_lf zr_144_10) (zSn_lf zr_144_11)))) (zSn_nd (zSn_nd (zSn_nd (zSn_lf zr_144_12) (zSn_lf zr_144_15)) (zSn_nd (zSn_lf zr_144_16) (zSn_lf zr_144_17))) (zSn_nd (zSn_nd (zSn_lf zr_144_20) (zSn_lf zr_144_21)) (zSn_nd (zSn_lf zr_144_22) (zSn_lf zr_144_25)))))
theorem zr_145_0 : zSnd 145 0 (o_aload 0 1) := zS_aload_n (i := 0) (by decide +kernel) rfl rfl
theorem zr_145_1 : zSnd 145 1 (o_aload 1 2) := zS_aload_n (i := 1) (by decide +kernel) rfl rfl
theorem zr_145_2 : zSnd 145 2 (o_getf 4 0 5) := zS_getf (idx := 42) (by decide +kernel) rfl (by decide) rfl (by decide) rfl zin_4 zq_439
theorem zr_145_5 : zSnd 145 5 (o_putf 4 0 8) := zS_putf (idx := 42) (by decide +kernel) rfl (by decide) rfl (by decide) rfl zin_4 tyX3_ok nmX3 rfl (by decide +kernel) zq_439
theorem zr_145_8 : zSnd 145 8 (o_aload 0 9) := zS_aload_n (i := 0) (by decide +kernel) rfl rfl
theorem zr_145_9 : zSnd 145 9 (o_aload 1 10) := zS_aload_n (i := 1) (by decide +kernel) rfl rfl
theorem zr_145_10 : zSnd 145 10 (o_getf 4 1 13) := zS_getf (idx := 46) (by decide +kernel) rfl (by decide) rfl (by decide) rfl zin_4 zq_440
theorem zr_145_13 : zSnd 145 13 (o_putf 4 1 16) := zS_putf (idx := 46) (by decide +kernel) rfl (by decide) rfl (by decide) rfl zin_4 tyX3_ok nmX3 rfl (by decide +kernel) zq_440
theorem zr_145_16 : zSnd 145 16 (o_aload 0 17) := zS_aload_n (i := 0) (by decide +kernel) rfl rfl
theorem zr_145_17 : zSnd 145 17 (o_aload 1 18) := zS_aload_n (i := 1) (by decide +kernel) rfl rfl
theorem zr_145_18 : zSnd 145 18 (o_getf 4 7 21) := zS_getf (idx := 49) (by decide +kernel) rfl (by decide) rfl (by decide) rfl zin_4 zq_441
theorem zr_145_21 : zSnd 145 21 (o_putf 4 7 24) := zS_putf (idx := 49) (by decide +kernel) rfl (by decide) rfl (by decide) rfl zin_4 tyX3_ok nmX3 rfl (by decide +kernel) zq_441
theorem zr_145_24 : zSnd 145 24 (o_aload 0 25) := zS_aload_n (i := 0) (by decide +kernel) rfl rfl
theorem zr_145_25 : zSnd 145 25 (o_aload 1 26) := zS_aload_n (i := 1) (by decide +kernel) rfl rfl
theorem zr_145_26 : zSnd 145 26 (o_getf 4 11 29) := zS_getf (idx := 52) (by decide +kernel) rfl (by decide) rfl (by decide) rfl zin_4 zq_442
theorem zr_145_29 : zSnd 145 29 (o_putz 4 11 32) := zS_putz (idx := 52) (by decide +kernel) rfl (by decide) rfl (by decide) rfl zin_4 tyX3_ok nmX3 rfl (by decide +kernel) zq_442
theorem zr_145_32 : zSnd 145 32 (o_aload 0 33) := zS_aload_n (i := 0) (by decide +kernel) rfl rfl
theorem zr_145_33 : zSnd 145 33 (o_aload 1 34) := zS_aload_n (i := 1) (by decide +kernel) rfl rfl
theorem zr_145_34 : zSnd 145 34 (o_getf 4 14 37) := zS_getf (idx := 56) (by decide +kernel) rfl (by decide) rfl (by decide) rfl zin_4 zq_443
theorem zr_145_37 : zSnd 145 37 (o_putf 4 14 40) := zS_putf (idx := 56) (by decide +kernel) rfl (by decide) rfl (by decide) rfl zin_4 tyX3_ok nmX3 rfl (by decide +kernel) zq_443
theorem zr_145_40 : zSnd 145 40 (o_aload 1 41) := zS_aload_n (i := 1) (by decide +kernel) rfl rfl
theorem zr_145_41 : zSnd 145 41 (o_getf 4 2 44) := zS_getf (idx := 9) (by decide +kernel) rfl (by decide) rfl (by decide) rfl zin_4 zq_444
theorem zr_145_44 : zSnd 145 44 (o_const 0 45) := zS_iconst (by decide +kernel) rfl (by decide)
theorem zr_145_45 : zSnd 145 45 (o_aload 0 46) := zS_aload_n (i := 0) (by decide +kernel) rfl rfl
theorem zr_145_46 : zSnd 145 46 (o_getf 4 2 49) := zS_getf (idx := 9) (by decide +kernel) rfl (by decide) rfl (by decide) rfl zin_4 zq_444
theorem zr_145_49 : zSnd 145 49 (o_const 0 50) := zS_iconst (by decide +kernel) rfl (by decide)
theorem zr_145_50 : zSnd 145 50 (o_const 6 52) := zS_bipush (by decide +kernel) rfl (by decide) (by decide)
theorem zr_145_52 : zSnd 145 52 (o_copy 55) := zS_copy (idx := 59) (by decide +kernel) rfl zq_445 zq_394 zq_395 zq_396 (by decide +kernel)
theorem zr_145_55 : zSnd 145 55 (o_aload 1 56) := zS_aload_n (i := 1) (by decide +kernel) rfl rfl
theorem zr_145_56 : zSnd 145 56 (o_getf 4 3 59) := zS_getf (idx := 15) (by decide +kernel) rfl (by decide) rfl (by decide) rfl zin_4 zq_446
theorem zr_145_59 : zSnd 145 59 (o_const 0 60) := zS_iconst (by decide +kernel) rfl (by decide)
theorem zr_145_60 : zSnd 145 60 (o_aload 0 61) := zS_aload_n (i := 0) (by decide +kernel) rfl rfl
theorem zr_145_61 : zSnd 145 61 (o_getf 4 3 64) := zS_getf (idx := 15) (by decide +kernel) rfl (by decide) rfl (by decide) rfl zin_4 zq_446
theorem zr_145_64 : zSnd 145 64 (o_const 0 65) := zS_iconst (by decide +kernel) rfl (by decide)
theorem zr_145_65 : zSnd 145 65 (o_const 6 67) := zS_bipush (by decide +kernel) rfl (by decide) (by decide)
theorem zr_145_67 : zSnd 145 67 (o_copy 70) := zS_copy (idx := 59) (by decide +kernel) rfl zq_445 zq_394 zq_395 zq_396 (by decide +kernel)
theorem zr_145_70 : zSnd 145 70 (o_aload 1 71) := zS_aload_n (i := 1) (by decide +kernel) rfl rfl
theorem zr_145_71 : zSnd 145 71 (o_getf 4 4 74) := zS_getf (idx := 18) (by decide +kernel) rfl (by decide) rfl (by decide) rfl zin_4 zq_447
theorem zr_145_74 : zSnd 145 74 (o_const 0 75) := zS_iconst (by decide +kernel) rfl (by decide)
theorem zr_145_75 : zSnd 145 75 (o_aload 0 76) := zS_aload_n (i := 0) (by decide +kernel) rfl rfl
theorem zr_145_76 : zSnd 145 76 (o_getf 4 4 79) := zS_getf (idx := 18) (by decide +kernel) rfl (by decide) rfl (by decide) rfl zin_4 zq_447
theorem zr_145_79 : zSnd 145 79 (o_const 0 80) := zS_iconst (by decide +kernel) rfl (by decide)
theorem zr_145_80 : zSnd 145 80 (o_const 6 82) := zS_bipush (by decide +kernel) rfl (by decide) (by decide)
theorem zr_145_82 : zSnd 145 82 (o_copy 85) := zS_copy (idx := 59) (by decide +kernel) rfl zq_445 zq_394 zq_395 zq_396 (by decide +kernel)
theorem zr_145_85 : zSnd 145 85 (o_aload 1 86) := zS_aload_n (i := 1) (by decide +kernel) rfl rfl
theorem zr_145_86 : zSnd 145 86 (o_getf 4 5 89) := zS_getf (idx := 21) (by decide +kernel) rfl (by decide) rfl (by decide) rfl zin_4 zq_448
theorem zr_145_89 : zSnd 145 89 (o_const 0 90) := zS_iconst (by decide +kernel) rfl (by decide)
theorem zr_145_90 : zSnd 145 90 (o_aload 0 91) := zS_aload_n (i := 0) (by decide +kernel) rfl rfl
theorem zr_145_91 : zSnd 145 91 (o_getf 4 5 94) := zS_getf (idx := 21) (by decide +kernel) rfl (by decide) rfl (by decide) rfl zin_4 zq_448
theorem zr_145_94 : zSnd 145 94 (o_const 0 95) := zS_iconst (by decide +kernel) rfl (by decide)
theorem zr_145_95 : zSnd 145 95 (o_const 30 97) := zS_bipush (by decide +kernel) rfl (by decide) (by decide)
theorem zr_145_97 : zSnd 145 97 (o_copy 100) := zS_copy (idx := 59) (by decide +kernel) rfl zq_445 zq_394 zq_395 zq_396 (by decide +kernel)
theorem zr_145_100 : zSnd 145 100 (o_aload 1 101) := zS_aload_n (i := 1) (by decide +kernel) rfl rfl
theorem zr_145_101 : zSnd 145 101 (o_getf 4 6 104) := zS_getf (idx := 24) (by decide +kernel) rfl (by decide) rfl (by decide) rfl zin_4 zq_449
theorem zr_145_104 : zSnd 145 104 (o_const 0 105) := zS_iconst (by decide +kernel) rfl (by decide)
theorem zr_145_105 : zSnd 145 105 (o_aload 0 106) := zS_aload_n (i := 0) (by decide +kernel) rfl rfl
theorem zr_145_106 : zSnd 145 106 (o_getf 4 6 109) := zS_getf (idx := 24) (by decide +kernel) rfl (by decide) rfl (by decide) rfl zin_4 zq_449
theorem zr_145_109 : zSnd 145 109 (o_const 0 110) := zS_iconst (by decide +kernel) rfl (by decide)
theorem zr_145_110 : zSnd 145 110 (o_const 30 112) := zS_bipush (by decide +kernel) rfl (by decide) (by decide)
theorem zr_145_112 : zSnd 145 112 (o_copy 115) := zS_copy (idx := 59) (by decide +kernel) rfl zq_445 zq_394 zq_395 zq_396 (by decide +kernel)
theorem zr_145_115 : zSnd 145 115 (o_aload 1 116) := zS_aload_n (i := 1) (by decide +kernel) rfl rfl
theorem zr_145_116 : zSnd 145 116 (o_getf 4 8 119) := zS_getf (idx := 27) (by decide +kernel) rfl (by decide) rfl (by decide) rfl zin_4 zq_450
theorem zr_145_119 : zSnd 145 119 (o_const 0 120) := zS_iconst (by decide +kernel) rfl (by decide)
theorem zr_145_120 : zSnd 145 120 (o_aload 0 121) := zS_aload_n (i := 0) (by decide +kernel) rfl rfl
theorem zr_145_121 : zSnd 145 121 (o_getf 4 8 124) := zS_getf (idx := 27) (by decide +kernel) rfl (by decide) rfl (by decide) rfl zin_4 zq_450
theorem zr_145_124 : zSnd 145 124 (o_const 0 125) := zS_iconst (by decide +kernel) rfl (by decide)
theorem zr_145_125 : zSnd 145 125 (o_const 6 127) := zS_bipush (by decide +kernel) rfl (by decide) (by decide)
theorem zr_145_127 : zSnd 145 127 (o_copy 130) := zS_copy (idx := 59) (by decide +kernel) rfl zq_445 zq_394 zq_395 zq_396 (by decide +kernel)
theorem zr_145_130 : zSnd 145 130 (o_aload 1 131) := zS_aload_n (i := 1) (by decide +kernel) rfl rfl
theorem zr_145_131 : zSnd 145 131 (o_getf 4 9 134) := zS_getf (idx := 30) (by decide +kernel) rfl (by decide) rfl (by decide) rfl zin_4 zq_451
theorem zr_145_134 : zSnd 145 134 (o_const 0 135) := zS_iconst (by decide +kernel) rfl (by decide)
theorem zr_145_135 : zSnd 145 135 (o_aload 0 136) := zS_aload_n (i := 0) (by decide +kernel) rfl rfl
theorem zr_145_136 : zSnd 145 136 (o_getf 4 9 139) := zS_getf (idx := 30) (by decide +kernel) rfl (by decide) rfl (by decide) rfl zin_4 zq_451
theorem zr_145_139 : zSnd 145 139 (o_const 0 140) := zS_iconst (by decide +kernel) rfl (by decide)
theorem zr_145_140 : zSnd 145 140 (o_const 6 142) := zS_bipush (by decide +kernel) rfl (by decide) (by decide)
theorem zr_145_142 : zSnd 145 142 (o_copy 145) := zS_copy (idx := 59) (by decide +kernel) rfl zq_445 zq_394 zq_395 zq_396 (by decide +kernel)
theorem zr_145_145 : zSnd 145 145 (o_aload 1 146) := zS_aload_n (i := 1) (by decide +kernel) rfl rfl
theorem zr_145_146 : zSnd 145 146 (o_getf 4 10 149) := zS_getf (idx := 33) (by decide +kernel) rfl (by decide) rfl (by decide) rfl zin_4 zq_452
theorem zr_145_149 : zSnd 145 149 (o_const 0 150) := zS_iconst (by decide +kernel) rfl (by decide)
theorem zr_145_150 : zSnd 145 150 (o_aload 0 151) := zS_aload_n (i := 0) (by decide +kernel) rfl rfl
theorem zr_145_151 : zSnd 145 151 (o_getf 4 10 154) := zS_getf (idx := 33) (by decide +kernel) rfl (by decide) rfl (by decide) rfl zin_4 zq_452
theorem zr_145_154 : zSnd 145 154 (o_const 0 155) := zS_iconst (by decide +kernel) rfl (by decide)
theorem zr_145_155 : zSnd 145 155 (o_const 6 157) := zS_bipush (by decide +kernel) rfl (by decide) (by decide)
theorem zr_145_157 : zSnd 145 157 (o_copy 160) := zS_copy (idx := 59) (by decide +kernel) rfl zq_445 zq_394 zq_395 zq_396 (by decide +kernel)
theorem zr_145_160 : zSnd 145 160 (o_aload 1 161) := zS_aload_n (i := 1) (by decide +kernel) rfl rfl
theorem zr_145_161 : zSnd 145 161 (o_getf 4 12 164) := zS_getf (idx := 36) (by decide +kernel) rfl (by decide) rfl (by decide) rfl zin_4 zq_453
theorem zr_145_164 : zSnd 145 164 (o_const 0 165) := zS_iconst (by decide +kernel) rfl (by decide)
theorem zr_145_165 : zSnd 145 165 (o_aload 0 166) := zS_aload_n (i := 0) (by decide +kernel) rfl rfl
theorem zr_145_166 : zSnd 145 166 (o_getf 4 12 169) := zS_getf (idx := 36) (by decide +kernel) rfl (by decide) rfl (by decide) rfl zin_4 zq_453
theorem zr_145_169 : zSnd 145 169 (o_const 0 170) := zS_iconst (by decide +kernel) rfl (by decide)
theorem zr_145_170 : zSnd 145 170 (o_const 30 172) := zS_bipush (by decide +kernel) rfl (by decide) (by decide)
theorem zr_145_172 : zSnd 145 172 (o_copy 175) := zS_copy (idx := 59) (by decide +kernel) rfl zq_445 zq_394 zq_395 zq_396 (by decide +kernel)
theorem zr_145_175 : zSnd 145 175 (o_aload 1 176) := zS_aload_n (i := 1) (by decide +kernel) rfl rfl
theorem zr_145_176 : zSnd 145 176 (o_getf 4 13 179) := zS_getf (idx := 39) (by decide +kernel) rfl (by decide) rfl (by decide) rfl zin_4 zq_454
theorem zr_145_179 : zSnd 145 179 (o_const 0 180) := zS_iconst (by decide +kernel) rfl (by decide)
theorem zr_145_180 : zSnd 145 180 (o_aload 0 181) := zS_aload_n (i := 0) (by decide +kernel) rfl rfl
theorem zr_145_181 : zSnd 145 181 (o_getf 4 13 184) := zS_getf (idx := 39) (by decide +kernel) rfl (by decide) rfl (by decide) rfl zin_4 zq_454
theorem zr_145_184 : zSnd 145 184 (o_const 0 185) := zS_iconst (by decide +kernel) rfl (by decide)
theorem zr_145_185 : zSnd 145 185 (o_const 30 187) := zS_bipush (by decide +kernel) rfl (by decide) (by decide)
theorem zr_145_187 : zSnd 145 187 (o_copy 190) := zS_copy (idx := 59) (by decide +kernel) rfl zq_445 zq_394 zq_395 zq_396 (by decide +kernel)
theorem zr_145_190 : zSnd 145 190 (o_ret) := zS_ret (by decide +kernel) (by decide +kernel)
theorem zT_145 (pc : Nat) : zSnd 145 pc (zc_145 pc) := by
  unfold zc_145
  exact (zSn_nd (zSn_nd (zSn_nd (zSn_nd (zSn_nd (zSn_nd (zSn_lf zr_145_0) (zSn_nd (zSn_lf zr_145_1) (zSn_lf zr_145_2))) (zSn_nd (zSn_lf zr_145_5) (zSn_nd (zSn_lf zr_145_8) (zSn_lf zr_145_9)))) (zSn_nd (zSn_nd (zSn_lf zr_145_10) (zSn_nd (zSn_lf zr_145_13) (zSn_lf zr_145_16))) (zSn_nd (zSn_lf zr_145_17) (zSn_nd (zSn_lf zr_145_18) (zSn_lf zr_145_21))))) (zSn_nd (zSn_nd (zSn_nd (zSn_lf zr_145_24) (zSn_nd (zSn_lf zr_145_25) (zSn_lf zr_145_26))) (zSn_nd (zSn_lf zr_145_29) (zSn_nd (zSn_lf zr_145_32) (zSn_lf zr_145_33)))) (zSn_nd (zSn_nd (zSn_lf zr_145_34) (zSn_nd (zSn_lf zr_145_37) (zSn_lf zr_145_40))) (zSn_nd (zSn_nd (zSn_lf zr_145_41) (zSn_lf zr_145_44)) (zSn_nd (zSn_lf zr_145_45) (zSn_lf zr_145_46)))))) (zSn_nd (zSn_nd (zSn_nd (zSn_nd (zSn_lf zr_145_49) (zSn_nd (zSn_lf zr_145_50) (zSn_lf zr_145_52))) (zSn_nd (zSn_lf zr_145_55) (zSn_nd (zSn_lf zr_145_56) (zSn_lf zr_145_59)))) (zSn_nd (zSn_nd (zSn_lf zr_145_60) (zSn_nd (zSn_lf zr_145_61) (zSn_lf zr_145_64))) (zSn_nd (zSn_lf zr_145_65) (zSn_nd (zSn_lf zr_145_67) (zSn_lf zr_145_70))))) (zSn_nd (zSn_nd (zSn_nd (zSn_lf zr_145_71) (zSn_nd (zSn_lf zr_145_74) (zSn_lf zr_145_75))) (zSn_nd (zSn_lf zr_145_76) (zSn_nd (zSn_lf zr_145_79) (zSn_lf zr_145_80)))) (zSn_nd (zSn_nd (zSn_lf zr_145_82) (zSn_nd (zSn_lf zr_145_85) (zSn_lf zr_145_86))) (zSn_nd (zSn_nd (zSn_lf zr_145_89) (zSn_lf zr_145_90)) (zSn_nd (zSn_lf zr_145_91) (zSn_lf zr_145_94))))))) (zSn_nd (zSn_nd (zSn_nd (zSn_nd (zSn_nd (zSn_lf zr_145_95) (zSn_nd (zSn_lf zr_145_97) (zSn_lf zr_145_100))) (zSn_nd (zSn_lf zr_145_101) (zSn_nd (zSn_lf zr_145_104) (zSn_lf zr_145_105)))) (zSn_nd (zSn_nd (zSn_lf zr_145_106) (zSn_nd (zSn_lf zr_145_109) (zSn_lf zr_145_110))) (zSn_nd (zSn_lf zr_145_112) (zSn_nd (zSn_lf zr_145_115) (zSn_lf zr_145_116))))) (zSn_nd (zSn_nd (zSn_nd (zSn_lf zr_145_119) (zSn_nd (zSn_lf zr_145_120) (zSn_lf zr_145_121))) (zSn_nd (zSn_lf zr_145_124) (zSn_nd (zSn_lf zr_145_125) (zSn_lf zr_145_127)))) (zSn_nd (zSn_nd (zSn_lf zr_145_130) (zSn_nd (zSn_lf zr_145_131) (zSn_lf zr_145_134))) (zSn_nd (zSn_nd (zSn_lf zr_145_135) (zSn_lf zr_145_136)) (zSn_nd (zSn_lf zr_145_139) (zSn_lf zr_145_140)))))) (zSn_nd (zSn_nd (zSn_nd (zSn_nd (zSn_lf zr_145_142) (zSn_nd (zSn_lf zr_145_145) (zSn_lf zr_145_146))) (zSn_nd (zSn_lf zr_145_149) (zSn_nd (zSn_lf zr_145_150) (zSn_lf zr_145_151)))) (zSn_nd (zSn_nd (zSn_lf zr_145_154) (zSn_nd (zSn_lf zr_145_155) (zSn_lf zr_145_157))) (zSn_nd (zSn_nd (zSn_lf zr_145_160) (zSn_lf zr_145_161)) (zSn_nd (zSn_lf zr_145_164) (zSn_lf zr_145_165))))) (zSn_nd (zSn_nd (zSn_nd (zSn_lf zr_145_166) (zSn_nd (zSn_lf zr_145_169) (zSn_lf zr_145_170))) (zSn_nd (zSn_lf zr_145_172) (zSn_nd (zSn_lf zr_145_175) (zSn_lf zr_145_176)))) (zSn_nd (zSn_nd (zSn_lf zr_145_179) (zSn_nd (zSn_lf zr_145_180) (zSn_lf zr_145_181))) (zSn_nd (zSn_nd (zSn_lf zr_145_184) (zSn_lf zr_145_185)) (zSn_nd (zSn_lf zr_145_187) (zSn_lf zr_145_190))))))))
