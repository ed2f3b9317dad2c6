/-! ===== 11: a row for each step (written by a program) ===== -/
theorem zr_49_0 : zSnd 49 0 (o_aload 0 1) := zS_aload_n (i := 0) (by decide +kernel) rfl rfl
theorem zr_49_1 : zSnd 49 1 (o_getf 6 1 4) := zS_getf (idx := 7) (by decide +kernel) rfl (by decide) rfl (by decide) rfl zin_6 zq_180
theorem zr_49_4 : zSnd 49 4 (o_const 1 5) := zS_iconst (by decide +kernel) rfl (by decide)
theorem zr_49_5 : zSnd 49 5 (o_iald 6) := zS_iald (by decide +kernel) rfl
theorem zr_49_6 : zSnd 49 6 (o_istore 3 7) := zS_istore_n (i := 3) (by decide +kernel) rfl rfl (by decide +kernel)
theorem zr_49_7 : zSnd 49 7 (o_aload 0 8) := zS_aload_n (i := 0) (by decide +kernel) rfl rfl
theorem zr_49_8 : zSnd 49 8 (o_getf 6 1 11) := zS_getf (idx := 7) (by decide +kernel) rfl (by decide) rfl (by decide) rfl zin_6 zq_180
theorem zr_49_11 : zSnd 49 11 (o_const 5 12) := zS_iconst (by decide +kernel) rfl (by decide)
theorem zr_49_12 : zSnd 49 12 (o_const 3 13) := zS_iconst (by decide +kernel) rfl (by decide)
theorem zr_49_13 : zSnd 49 13 (o_iload 3 14) := zS_iload_n (i := 3) (by decide +kernel) rfl rfl
theorem zr_49_14 : zSnd 49 14 (o_imul 15) := zS_imul (by decide +kernel) rfl
theorem zr_49_15 : zSnd 49 15 (o_iadd 16) := zS_iadd (by decide +kernel) rfl
theorem zr_49_16 : zSnd 49 16 (o_const 0 17) := zS_iconst (by decide +kernel) rfl (by decide)
theorem zr_49_17 : zSnd 49 17 (o_iadd 18) := zS_iadd (by decide +kernel) rfl
theorem zr_49_18 : zSnd 49 18 (o_iload 1 19) := zS_iload_n (i := 1) (by decide +kernel) rfl rfl
theorem zr_49_19 : zSnd 49 19 (o_iast 20) := zS_iast (by decide +kernel) rfl
theorem zr_49_20 : zSnd 49 20 (o_aload 0 21) := zS_aload_n (i := 0) (by decide +kernel) rfl rfl
theorem zr_49_21 : zSnd 49 21 (o_getf 6 1 24) := zS_getf (idx := 7) (by decide +kernel) rfl (by decide) rfl (by decide) rfl zin_6 zq_180
theorem zr_49_24 : zSnd 49 24 (o_const 5 25) := zS_iconst (by decide +kernel) rfl (by decide)
theorem zr_49_25 : zSnd 49 25 (o_const 3 26) := zS_iconst (by decide +kernel) rfl (by decide)
theorem zr_49_26 : zSnd 49 26 (o_iload 3 27) := zS_iload_n (i := 3) (by decide +kernel) rfl rfl
theorem zr_49_27 : zSnd 49 27 (o_imul 28) := zS_imul (by decide +kernel) rfl
theorem zr_49_28 : zSnd 49 28 (o_iadd 29) := zS_iadd (by decide +kernel) rfl
theorem zr_49_29 : zSnd 49 29 (o_const 1 30) := zS_iconst (by decide +kernel) rfl (by decide)
theorem zr_49_30 : zSnd 49 30 (o_iadd 31) := zS_iadd (by decide +kernel) rfl
theorem zr_49_31 : zSnd 49 31 (o_iload 2 32) := zS_iload_n (i := 2) (by decide +kernel) rfl rfl
theorem zr_49_32 : zSnd 49 32 (o_iast 33) := zS_iast (by decide +kernel) rfl
theorem zr_49_33 : zSnd 49 33 (o_aload 0 34) := zS_aload_n (i := 0) (by decide +kernel) rfl rfl
theorem zr_49_34 : zSnd 49 34 (o_getf 6 1 37) := zS_getf (idx := 7) (by decide +kernel) rfl (by decide) rfl (by decide) rfl zin_6 zq_180
theorem zr_49_37 : zSnd 49 37 (o_const 5 38) := zS_iconst (by decide +kernel) rfl (by decide)
theorem zr_49_38 : zSnd 49 38 (o_const 3 39) := zS_iconst (by decide +kernel) rfl (by decide)
theorem zr_49_39 : zSnd 49 39 (o_iload 3 40) := zS_iload_n (i := 3) (by decide +kernel) rfl rfl
theorem zr_49_40 : zSnd 49 40 (o_imul 41) := zS_imul (by decide +kernel) rfl
theorem zr_49_41 : zSnd 49 41 (o_iadd 42) := zS_iadd (by decide +kernel) rfl
theorem zr_49_42 : zSnd 49 42 (o_const 2 43) := zS_iconst (by decide +kernel) rfl (by decide)
theorem zr_49_43 : zSnd 49 43 (o_iadd 44) := zS_iadd (by decide +kernel) rfl
theorem zr_49_44 : zSnd 49 44 (o_const 0 45) := zS_iconst (by decide +kernel) rfl (by decide)
theorem zr_49_45 : zSnd 49 45 (o_iast 46) := zS_iast (by decide +kernel) rfl
theorem zr_49_46 : zSnd 49 46 (o_aload 0 47) := zS_aload_n (i := 0) (by decide +kernel) rfl rfl
theorem zr_49_47 : zSnd 49 47 (o_getf 6 1 50) := zS_getf (idx := 7) (by decide +kernel) rfl (by decide) rfl (by decide) rfl zin_6 zq_180
theorem zr_49_50 : zSnd 49 50 (o_const 1 51) := zS_iconst (by decide +kernel) rfl (by decide)
theorem zr_49_51 : zSnd 49 51 (o_dup2 52) := zS_dup2 (by decide +kernel) rfl
theorem zr_49_52 : zSnd 49 52 (o_iald 53) := zS_iald (by decide +kernel) rfl
theorem zr_49_53 : zSnd 49 53 (o_const 1 54) := zS_iconst (by decide +kernel) rfl (by decide)
theorem zr_49_54 : zSnd 49 54 (o_iadd 55) := zS_iadd (by decide +kernel) rfl
theorem zr_49_55 : zSnd 49 55 (o_iast 56) := zS_iast (by decide +kernel) rfl
theorem zr_49_56 : zSnd 49 56 (o_aload 0 57) := zS_aload_n (i := 0) (by decide +kernel) rfl rfl
theorem zr_49_57 : zSnd 49 57 (o_getf 6 1 60) := zS_getf (idx := 7) (by decide +kernel) rfl (by decide) rfl (by decide) rfl zin_6 zq_180
theorem zr_49_60 : zSnd 49 60 (o_const 3 61) := zS_iconst (by decide +kernel) rfl (by decide)
theorem zr_49_61 : zSnd 49 61 (o_const 0 62) := zS_iconst (by decide +kernel) rfl (by decide)
theorem zr_49_62 : zSnd 49 62 (o_iast 63) := zS_iast (by decide +kernel) rfl
theorem zr_49_63 : zSnd 49 63 (o_iload 3 64) := zS_iload_n (i := 3) (by decide +kernel) rfl rfl
theorem zr_49_64 : zSnd 49 64 (o_iret) := zS_iret (by decide +kernel) (by decide +kernel)
theorem zT_49 (pc : Nat) : zSnd 49 pc (zc_49 pc) := by
  unfold zc_49
  exact (zSn_nd (zSn_nd (zSn_nd (zSn_nd (zSn_nd (zSn_lf zr_49_0) (zSn_nd (zSn_lf zr_49_1) (zSn_lf zr_49_4))) (zSn_nd (zSn_lf zr_49_5) (zSn_nd (zSn_lf zr_49_6) (zSn_lf zr_49_7)))) (zSn_nd (zSn_nd (zSn_lf zr_49_8) (zSn_nd (zSn_lf zr_49_11) (zSn_lf zr_49_12))) (zSn_nd (zSn_nd (zSn_lf zr_49_13) (zSn_lf zr_49_14)) (zSn_nd (zSn_lf zr_49_15) (zSn_lf zr_49_16))))) (zSn_nd (zSn_nd (zSn_nd (zSn_lf zr_49_17) (zSn_nd (zSn_lf zr_49_18) (zSn_lf zr_49_19))) (zSn_nd (zSn_lf zr_49_20) (zSn_nd (zSn_lf zr_49_21) (zSn_lf zr_49_24)))) (zSn_nd (zSn_nd (zSn_lf zr_49_25) (zSn_nd (zSn_lf zr_49_26) (zSn_lf zr_49_27))) (zSn_nd (zSn_nd (zSn_lf zr_49_28) (zSn_lf zr_49_29)) (zSn_nd (zSn_lf zr_49_30) (zSn_lf zr_49_31)))))) (zSn_nd (zSn_nd (zSn_nd (zSn_nd (zSn_lf zr_49_32) (zSn_nd (zSn_lf zr_49_33) (zSn_lf zr_49_34))) (zSn_nd (zSn_lf zr_49_37) (zSn_nd (zSn_lf zr_49_38) (zSn_lf zr_49_39)))) (zSn_nd (zSn_nd (zSn_lf zr_49_40) (zSn_nd (zSn_lf zr_49_41) (zSn_lf zr_49_42))) (zSn_nd (zSn_nd (zSn_lf zr_49_43) (zSn_lf zr_49_44)) (zSn_nd (zSn_lf zr_49_45) (zSn_lf zr_49_46))))) (zSn_nd (zSn_nd (zSn_nd (zSn_lf zr_49_47) (zSn_nd (zSn_lf zr_49_50) (zSn_lf zr_49_51))) (zSn_nd (zSn_nd (zSn_lf zr_49_52) (zSn_lf zr_49_53)) (zSn_nd (zSn_lf zr_49_54) (zSn_lf zr_49_55)))) (zSn_nd (zSn_nd (zSn_lf zr_49_56) (zSn_nd (zSn_lf zr_49_57) (zSn_lf zr_49_60))) (zSn_nd (zSn_nd (zSn_lf zr_49_61) (zSn_lf zr_49_62)) (zSn_nd (zSn_lf zr_49_63) (zSn_lf zr_49_64)))))))
theorem zr_50_0 : zSnd 50 0 (o_aload 0 1) := zS_aload_n (i := 0) (by decide +kernel) rfl rfl
theorem zr_50_1 : zSnd 50 1 (o_aload 0 2) := zS_aload_n (i := 0) (by decide +kernel) rfl rfl
theorem zr_50_2 : zSnd 50 2 (o_iload 1 3) := zS_iload_n (i := 1) (by decide +kernel) rfl rfl
theorem zr_50_3 : zSnd 50 3 (o_iload 2 4) := zS_iload_n (i := 2) (by decide +kernel) rfl rfl
theorem zr_50_4 : zSnd 50 4 (o_callv 6 48 3 3 1 7) := zS_callV (n := 2) (idx := 51) (by decide +kernel) rfl rfl (by decide) rfl zq_196 zq_197 zq_198 (by decide +kernel) zMk_48 (by decide +kernel) (by decide +kernel) (by decide +kernel)
theorem zr_50_7 : zSnd 50 7 (o_putf 6 0 10) := zS_putf (idx := 22) (by decide +kernel) rfl (by decide) rfl (by decide) rfl zin_6 tyX5_ok nmX5 rfl (by decide +kernel) zq_177
theorem zr_50_10 : zSnd 50 10 (o_aload 0 11) := zS_aload_n (i := 0) (by decide +kernel) rfl rfl
theorem zr_50_11 : zSnd 50 11 (o_getf 6 0 14) := zS_getf (idx := 22) (by decide +kernel) rfl (by decide) rfl (by decide) rfl zin_6 zq_177
theorem zr_50_14 : zSnd 50 14 (o_ifle 19 17) := zS_ifle (by decide +kernel : decode (zmB 50) 14 = .ok (.ifCond .le 5, 3)) rfl (by decide)
theorem zr_50_17 : zSnd 50 17 (o_const 0 18) := zS_iconst (by decide +kernel) rfl (by decide)
theorem zr_50_18 : zSnd 50 18 (o_iret) := zS_iret (by decide +kernel) (by decide +kernel)
theorem zr_50_19 : zSnd 50 19 (o_aload 0 20) := zS_aload_n (i := 0) (by decide +kernel) rfl rfl
theorem zr_50_20 : zSnd 50 20 (o_callv 6 39 1 2 0 23) := zS_callV (n := 0) (idx := 48) (by decide +kernel) rfl rfl (by decide) rfl zq_193 zq_194 zq_195 (by decide +kernel) zMk_39 (by decide +kernel) (by decide +kernel) (by decide +kernel)
theorem zr_50_23 : zSnd 50 23 (o_aload 0 24) := zS_aload_n (i := 0) (by decide +kernel) rfl rfl
theorem zr_50_24 : zSnd 50 24 (o_iload 1 25) := zS_iload_n (i := 1) (by decide +kernel) rfl rfl
theorem zr_50_25 : zSnd 50 25 (o_iload 2 26) := zS_iload_n (i := 2) (by decide +kernel) rfl rfl
theorem zr_50_26 : zSnd 50 26 (o_callv 6 49 3 4 1 29) := zS_callV (n := 2) (idx := 54) (by decide +kernel) rfl rfl (by decide) rfl zq_199 zq_200 zq_201 (by decide +kernel) zMk_49 (by decide +kernel) (by decide +kernel) (by decide +kernel)
theorem zr_50_29 : zSnd 50 29 (o_iret) := zS_iret (by decide +kernel) (by decide +kernel)
theorem zT_50 (pc : Nat) : zSnd 50 pc (zc_50 pc) := by
  unfold zc_50
  exact (zSn_nd (zSn_nd (zSn_nd (zSn_nd (zSn_lf zr_50_0) (zSn_lf zr_50_1)) (zSn_nd (zSn_lf zr_50_2) (zSn_lf zr_50_3))) (zSn_nd (zSn_nd (zSn_lf zr_50_4) (zSn_lf zr_50_7)) (zSn_nd (zSn_lf zr_50_10) (zSn_nd (zSn_lf zr_50_11) (zSn_lf zr_50_14))))) (zSn_nd (zSn_nd (zSn_nd (zSn_lf zr_50_17) (zSn_lf zr_50_18)) (zSn_nd (zSn_lf zr_50_19) (zSn_lf zr_50_20))) (zSn_nd (zSn_nd (zSn_lf zr_50_23) (zSn_lf zr_50_24)) (zSn_nd (zSn_lf zr_50_25) (zSn_nd (zSn_lf zr_50_26) (zSn_lf zr_50_29))))))
theorem zr_51_0 : zSnd 51 0 (o_aload 0 1) := zS_aload_n (i := 0) (by decide +kernel) rfl rfl
theorem zr_51_1 : zSnd 51 1 (o_iload 1 2) := zS_iload_n (i := 1) (by decide +kernel) rfl rfl
theorem zr_51_2 : zSnd 51 2 (o_callv 6 41 2 2 1 5) := zS_callV (n := 1) (idx := 41) (by decide +kernel) rfl rfl (by decide) rfl zq_187 zq_188 zq_189 (by decide +kernel) zMk_41 (by decide +kernel) (by decide +kernel) (by decide +kernel)
theorem zr_51_5 : zSnd 51 5 (o_ifeq 16 8) := zS_ifeq (by decide +kernel : decode (zmB 51) 5 = .ok (.ifCond .eq 11, 3)) rfl (by decide)
theorem zr_51_8 : zSnd 51 8 (o_aload 0 9) := zS_aload_n (i := 0) (by decide +kernel) rfl rfl
theorem zr_51_9 : zSnd 51 9 (o_iload 2 10) := zS_iload_n (i := 2) (by decide +kernel) rfl rfl
theorem zr_51_10 : zSnd 51 10 (o_callv 6 40 2 2 1 13) := zS_callV (n := 1) (idx := 57) (by decide +kernel) rfl rfl (by decide) rfl zq_202 zq_203 zq_204 (by decide +kernel) zMk_40 (by decide +kernel) (by decide +kernel) (by decide +kernel)
theorem zr_51_13 : zSnd 51 13 (o_ifne 18 16) := zS_ifne (by decide +kernel : decode (zmB 51) 13 = .ok (.ifCond .ne 5, 3)) rfl (by decide)
theorem zr_51_16 : zSnd 51 16 (o_const 1 17) := zS_iconst (by decide +kernel) rfl (by decide)
theorem zr_51_17 : zSnd 51 17 (o_iret) := zS_iret (by decide +kernel) (by decide +kernel)
theorem zr_51_18 : zSnd 51 18 (o_iload 3 19) := zS_iload_n (i := 3) (by decide +kernel) rfl rfl
theorem zr_51_19 : zSnd 51 19 (o_const 1 20) := zS_iconst (by decide +kernel) rfl (by decide)
theorem zr_51_20 : zSnd 51 20 (o_const 20 22) := zS_bipush (by decide +kernel) rfl (by decide) (by decide)
theorem zr_51_22 : zSnd 51 22 (o_call 38 3 3 1 25) := zS_callS (idx := 33) (by decide +kernel) rfl zq_183 zq_184 (by decide +kernel) zMk_38 (by decide +kernel) (by decide +kernel) (by decide +kernel)
theorem zr_51_25 : zSnd 51 25 (o_ifne 32 28) := zS_ifne (by decide +kernel : decode (zmB 51) 25 = .ok (.ifCond .ne 7, 3)) rfl (by decide)
theorem zr_51_28 : zSnd 51 28 (o_const 2 29) := zS_iconst (by decide +kernel) rfl (by decide)
theorem zr_51_29 : zSnd 51 29 (o_goto 47) := zS_goto (by decide +kernel : decode (zmB 51) 29 = .ok (.goto 18, 3)) (by decide)
theorem zr_51_32 : zSnd 51 32 (o_aload 0 33) := zS_aload_n (i := 0) (by decide +kernel) rfl rfl
theorem zr_51_33 : zSnd 51 33 (o_iload 1 34) := zS_iload_n (i := 1) (by decide +kernel) rfl rfl
theorem zr_51_34 : zSnd 51 34 (o_const 2 35) := zS_iconst (by decide +kernel) rfl (by decide)
theorem zr_51_35 : zSnd 51 35 (o_callv 6 42 3 3 1 38) := zS_callV (n := 2) (idx := 45) (by decide +kernel) rfl rfl (by decide) rfl zq_190 zq_191 zq_192 (by decide +kernel) zMk_42 (by decide +kernel) (by decide +kernel) (by decide +kernel)
theorem zr_51_38 : zSnd 51 38 (o_const 5 39) := zS_iconst (by decide +kernel) rfl (by decide)
theorem zr_51_39 : zSnd 51 39 (o_cne 46 42) := zS_cne (by decide +kernel : decode (zmB 51) 39 = .ok (.if_icmp .ne 7, 3)) rfl (by decide)
theorem zr_51_42 : zSnd 51 42 (o_const 3 43) := zS_iconst (by decide +kernel) rfl (by decide)
theorem zr_51_43 : zSnd 51 43 (o_goto 47) := zS_goto (by decide +kernel : decode (zmB 51) 43 = .ok (.goto 4, 3)) (by decide)
theorem zr_51_46 : zSnd 51 46 (o_const 0 47) := zS_iconst (by decide +kernel) rfl (by decide)
theorem zr_51_47 : zSnd 51 47 (o_iret) := zS_iret (by decide +kernel) (by decide +kernel)
theorem zT_51 (pc : Nat) : zSnd 51 pc (zc_51 pc) := by
  unfold zc_51
  exact (zSn_nd (zSn_nd (zSn_nd (zSn_nd (zSn_lf zr_51_0) (zSn_nd (zSn_lf zr_51_1) (zSn_lf zr_51_2))) (zSn_nd (zSn_lf zr_51_5) (zSn_nd (zSn_lf zr_51_8) (zSn_lf zr_51_9)))) (zSn_nd (zSn_nd (zSn_lf zr_51_10) (zSn_nd (zSn_lf zr_51_13) (zSn_lf zr_51_16))) (zSn_nd (zSn_nd (zSn_lf zr_51_17) (zSn_lf zr_51_18)) (zSn_nd (zSn_lf zr_51_19) (zSn_lf zr_51_20))))) (zSn_nd (zSn_nd (zSn_nd (zSn_lf zr_51_22) (zSn_nd (zSn_lf zr_51_25) (zSn_lf zr_51_28))) (zSn_nd (zSn_nd (zSn_lf zr_51_29) (zSn_lf zr_51_32)) (zSn_nd (zSn_lf zr_51_33) (zSn_lf zr_51_34)))) (zSn_nd (zSn_nd (zSn_lf zr_51_35) (zSn_nd (zSn_lf zr_51_38) (zSn_lf zr_51_39))) (zSn_nd (zSn_nd (zSn_lf zr_51_42) (zSn_lf zr_51_43)) (zSn_nd (zSn_lf zr_51_46) (zSn_lf zr_51_47))))))
theorem zr_52_0 : zSnd 52 0 (o_aload 0 1) := zS_aload_n (i := 0) (by decide +kernel) rfl rfl
theorem zr_52_1 : zSnd 52 1 (o_iload 1 2) := zS_iload_n (i := 1) (by decide +kernel) rfl rfl
theorem zr_52_2 : zSnd 52 2 (o_const 2 3) := zS_iconst (by decide +kernel) rfl (by decide)
theorem zr_52_3 : zSnd 52 3 (o_callv 6 42 3 3 1 6) := zS_callV (n := 2) (idx := 45) (by decide +kernel) rfl rfl (by decide) rfl zq_190 zq_191 zq_192 (by decide +kernel) zMk_42 (by decide +kernel) (by decide +kernel) (by decide +kernel)
theorem zr_52_6 : zSnd 52 6 (o_istore 4 8) := zS_istore (by decide +kernel) rfl (by decide +kernel)
theorem zr_52_8 : zSnd 52 8 (o_aload 0 9) := zS_aload_n (i := 0) (by decide +kernel) rfl rfl
theorem zr_52_9 : zSnd 52 9 (o_getf 6 1 12) := zS_getf (idx := 7) (by decide +kernel) rfl (by decide) rfl (by decide) rfl zin_6 zq_180
theorem zr_52_12 : zSnd 52 12 (o_iload 1 13) := zS_iload_n (i := 1) (by decide +kernel) rfl rfl
theorem zr_52_13 : zSnd 52 13 (o_iload 4 15) := zS_iload (by decide +kernel) rfl
theorem zr_52_15 : zSnd 52 15 (o_call 43 2 2 1 18) := zS_callS (idx := 37) (by decide +kernel) rfl zq_185 zq_186 (by decide +kernel) zMk_43 (by decide +kernel) (by decide +kernel) (by decide +kernel)
theorem zr_52_18 : zSnd 52 18 (o_const 0 19) := zS_iconst (by decide +kernel) rfl (by decide)
theorem zr_52_19 : zSnd 52 19 (o_iadd 20) := zS_iadd (by decide +kernel) rfl
theorem zr_52_20 : zSnd 52 20 (o_iload 2 21) := zS_iload_n (i := 2) (by decide +kernel) rfl rfl
theorem zr_52_21 : zSnd 52 21 (o_iast 22) := zS_iast (by decide +kernel) rfl
theorem zr_52_22 : zSnd 52 22 (o_aload 0 23) := zS_aload_n (i := 0) (by decide +kernel) rfl rfl
theorem zr_52_23 : zSnd 52 23 (o_getf 6 1 26) := zS_getf (idx := 7) (by decide +kernel) rfl (by decide) rfl (by decide) rfl zin_6 zq_180
theorem zr_52_26 : zSnd 52 26 (o_iload 1 27) := zS_iload_n (i := 1) (by decide +kernel) rfl rfl
theorem zr_52_27 : zSnd 52 27 (o_iload 4 29) := zS_iload (by decide +kernel) rfl
theorem zr_52_29 : zSnd 52 29 (o_call 43 2 2 1 32) := zS_callS (idx := 37) (by decide +kernel) rfl zq_185 zq_186 (by decide +kernel) zMk_43 (by decide +kernel) (by decide +kernel) (by decide +kernel)
theorem zr_52_32 : zSnd 52 32 (o_const 1 33) := zS_iconst (by decide +kernel) rfl (by decide)
theorem zr_52_33 : zSnd 52 33 (o_iadd 34) := zS_iadd (by decide +kernel) rfl
theorem zr_52_34 : zSnd 52 34 (o_iload 3 35) := zS_iload_n (i := 3) (by decide +kernel) rfl rfl
theorem zr_52_35 : zSnd 52 35 (o_iast 36) := zS_iast (by decide +kernel) rfl
theorem zr_52_36 : zSnd 52 36 (o_aload 0 37) := zS_aload_n (i := 0) (by decide +kernel) rfl rfl
theorem zr_52_37 : zSnd 52 37 (o_getf 6 1 40) := zS_getf (idx := 7) (by decide +kernel) rfl (by decide) rfl (by decide) rfl zin_6 zq_180
theorem zr_52_40 : zSnd 52 40 (o_const 5 41) := zS_iconst (by decide +kernel) rfl (by decide)
theorem zr_52_41 : zSnd 52 41 (o_const 3 42) := zS_iconst (by decide +kernel) rfl (by decide)
theorem zr_52_42 : zSnd 52 42 (o_iload 1 43) := zS_iload_n (i := 1) (by decide +kernel) rfl rfl
theorem zr_52_43 : zSnd 52 43 (o_imul 44) := zS_imul (by decide +kernel) rfl
theorem zr_52_44 : zSnd 52 44 (o_iadd 45) := zS_iadd (by decide +kernel) rfl
theorem zr_52_45 : zSnd 52 45 (o_const 2 46) := zS_iconst (by decide +kernel) rfl (by decide)
theorem zr_52_46 : zSnd 52 46 (o_iadd 47) := zS_iadd (by decide +kernel) rfl
theorem zr_52_47 : zSnd 52 47 (o_dup2 48) := zS_dup2 (by decide +kernel) rfl
theorem zr_52_48 : zSnd 52 48 (o_iald 49) := zS_iald (by decide +kernel) rfl
theorem zr_52_49 : zSnd 52 49 (o_const 1 50) := zS_iconst (by decide +kernel) rfl (by decide)
theorem zr_52_50 : zSnd 52 50 (o_iadd 51) := zS_iadd (by decide +kernel) rfl
theorem zr_52_51 : zSnd 52 51 (o_iast 52) := zS_iast (by decide +kernel) rfl
theorem zr_52_52 : zSnd 52 52 (o_aload 0 53) := zS_aload_n (i := 0) (by decide +kernel) rfl rfl
theorem zr_52_53 : zSnd 52 53 (o_getf 6 1 56) := zS_getf (idx := 7) (by decide +kernel) rfl (by decide) rfl (by decide) rfl zin_6 zq_180
theorem zr_52_56 : zSnd 52 56 (o_const 3 57) := zS_iconst (by decide +kernel) rfl (by decide)
theorem zr_52_57 : zSnd 52 57 (o_const 0 58) := zS_iconst (by decide +kernel) rfl (by decide)
theorem zr_52_58 : zSnd 52 58 (o_iast 59) := zS_iast (by decide +kernel) rfl
theorem zr_52_59 : zSnd 52 59 (o_iload 4 61) := zS_iload (by decide +kernel) rfl
theorem zr_52_61 : zSnd 52 61 (o_iret) := zS_iret (by decide +kernel) (by decide +kernel)
theorem zT_52 (pc : Nat) : zSnd 52 pc (zc_52 pc) := by
  unfold zc_52
  exact (zSn_nd (zSn_nd (zSn_nd (zSn_nd (zSn_nd (zSn_lf zr_52_0) (zSn_lf zr_52_1)) (zSn_nd (zSn_lf zr_52_2) (zSn_nd (zSn_lf zr_52_3) (zSn_lf zr_52_6)))) (zSn_nd (zSn_nd (zSn_lf zr_52_8) (zSn_nd (zSn_lf zr_52_9) (zSn_lf zr_52_12))) (zSn_nd (zSn_lf zr_52_13) (zSn_nd (zSn_lf zr_52_15) (zSn_lf zr_52_18))))) (zSn_nd (zSn_nd (zSn_nd (zSn_lf zr_52_19) (zSn_lf zr_52_20)) (zSn_nd (zSn_lf zr_52_21) (zSn_nd (zSn_lf zr_52_22) (zSn_lf zr_52_23)))) (zSn_nd (zSn_nd (zSn_lf zr_52_26) (zSn_nd (zSn_lf zr_52_27) (zSn_lf zr_52_29))) (zSn_nd (zSn_lf zr_52_32) (zSn_nd (zSn_lf zr_52_33) (zSn_lf zr_52_34)))))) (zSn_nd (zSn_nd (zSn_nd (zSn_nd (zSn_lf zr_52_35) (zSn_lf zr_52_36)) (zSn_nd (zSn_lf zr_52_37) (zSn_nd (zSn_lf zr_52_40) (zSn_lf zr_52_41)))) (zSn_nd (zSn_nd (zSn_lf zr_52_42) (zSn_nd (zSn_lf zr_52_43) (zSn_lf zr_52_44))) (zSn_nd (zSn_lf zr_52_45) (zSn_nd (zSn_lf zr_52_46) (zSn_lf zr_52_47))))) (zSn_nd (zSn_nd (zSn_nd (zSn_lf zr_52_48) (zSn_lf zr_52_49)) (zSn_nd (zSn_lf zr_52_50) (zSn_nd (zSn_lf zr_52_51) (zSn_lf zr_52_52)))) (zSn_nd (zSn_nd (zSn_lf zr_52_53) (zSn_nd (zSn_lf zr_52_56) (zSn_lf zr_52_57))) (zSn_nd (zSn_lf zr_52_58) (zSn_nd (zSn_lf zr_52_59) (zSn_lf zr_52_61)))))))
theorem zr_53_0 : zSnd 53 0 (o_aload 0 1) := zS_aload_n (i := 0) (by decide +kernel) rfl rfl
theorem zr_53_1 : zSnd 53 1 (o_aload 0 2) := zS_aload_n (i := 0) (by decide +kernel) rfl rfl
theorem zr_53_2 : zSnd 53 2 (o_iload 1 3) := zS_iload_n (i := 1) (by decide +kernel) rfl rfl
theorem zr_53_3 : zSnd 53 3 (o_iload 2 4) := zS_iload_n (i := 2) (by decide +kernel) rfl rfl
theorem zr_53_4 : zSnd 53 4 (o_iload 3 5) := zS_iload_n (i := 3) (by decide +kernel) rfl rfl
theorem zr_53_5 : zSnd 53 5 (o_callv 6 51 4 4 1 8) := zS_callV (n := 3) (idx := 60) (by decide +kernel) rfl rfl (by decide) rfl zq_205 zq_206 zq_207 (by decide +kernel) zMk_51 (by decide +kernel) (by decide +kernel) (by decide +kernel)
theorem zr_53_8 : zSnd 53 8 (o_putf 6 0 11) := zS_putf (idx := 22) (by decide +kernel) rfl (by decide) rfl (by decide) rfl zin_6 tyX5_ok nmX5 rfl (by decide +kernel) zq_177
theorem zr_53_11 : zSnd 53 11 (o_aload 0 12) := zS_aload_n (i := 0) (by decide +kernel) rfl rfl
theorem zr_53_12 : zSnd 53 12 (o_getf 6 0 15) := zS_getf (idx := 22) (by decide +kernel) rfl (by decide) rfl (by decide) rfl zin_6 zq_177
theorem zr_53_15 : zSnd 53 15 (o_ifle 20 18) := zS_ifle (by decide +kernel : decode (zmB 53) 15 = .ok (.ifCond .le 5, 3)) rfl (by decide)
theorem zr_53_18 : zSnd 53 18 (o_const 0 19) := zS_iconst (by decide +kernel) rfl (by decide)
theorem zr_53_19 : zSnd 53 19 (o_iret) := zS_iret (by decide +kernel) (by decide +kernel)
theorem zr_53_20 : zSnd 53 20 (o_aload 0 21) := zS_aload_n (i := 0) (by decide +kernel) rfl rfl
theorem zr_53_21 : zSnd 53 21 (o_callv 6 39 1 2 0 24) := zS_callV (n := 0) (idx := 48) (by decide +kernel) rfl rfl (by decide) rfl zq_193 zq_194 zq_195 (by decide +kernel) zMk_39 (by decide +kernel) (by decide +kernel) (by decide +kernel)
theorem zr_53_24 : zSnd 53 24 (o_aload 0 25) := zS_aload_n (i := 0) (by decide +kernel) rfl rfl
theorem zr_53_25 : zSnd 53 25 (o_iload 1 26) := zS_iload_n (i := 1) (by decide +kernel) rfl rfl
theorem zr_53_26 : zSnd 53 26 (o_iload 2 27) := zS_iload_n (i := 2) (by decide +kernel) rfl rfl
theorem zr_53_27 : zSnd 53 27 (o_iload 3 28) := zS_iload_n (i := 3) (by decide +kernel) rfl rfl
theorem zr_53_28 : zSnd 53 28 (o_callv 6 52 4 5 1 31) := zS_callV (n := 3) (idx := 64) (by decide +kernel) rfl rfl (by decide) rfl zq_208 zq_209 zq_210 (by decide +kernel) zMk_52 (by decide +kernel) (by decide +kernel) (by decide +kernel)
theorem zr_53_31 : zSnd 53 31 (o_iret) := zS_iret (by decide +kernel) (by decide +kernel)
theorem zT_53 (pc : Nat) : zSnd 53 pc (zc_53 pc) := by
  unfold zc_53
  exact (zSn_nd (zSn_nd (zSn_nd (zSn_nd (zSn_lf zr_53_0) (zSn_lf zr_53_1)) (zSn_nd (zSn_lf zr_53_2) (zSn_nd (zSn_lf zr_53_3) (zSn_lf zr_53_4)))) (zSn_nd (zSn_nd (zSn_lf zr_53_5) (zSn_lf zr_53_8)) (zSn_nd (zSn_lf zr_53_11) (zSn_nd (zSn_lf zr_53_12) (zSn_lf zr_53_15))))) (zSn_nd (zSn_nd (zSn_nd (zSn_lf zr_53_18) (zSn_lf zr_53_19)) (zSn_nd (zSn_lf zr_53_20) (zSn_nd (zSn_lf zr_53_21) (zSn_lf zr_53_24)))) (zSn_nd (zSn_nd (zSn_lf zr_53_25) (zSn_lf zr_53_26)) (zSn_nd (zSn_lf zr_53_27) (zSn_nd (zSn_lf zr_53_28) (zSn_lf zr_53_31))))))
theorem zr_54_0 : zSnd 54 0 (o_aload 0 1) := zS_aload_n (i := 0) (by decide +kernel) rfl rfl
theorem zr_54_1 : zSnd 54 1 (o_iload 1 2) := zS_iload_n (i := 1) (by decide +kernel) rfl rfl
theorem zr_54_2 : zSnd 54 2 (o_callv 6 40 2 2 1 5) := zS_callV (n := 1) (idx := 57) (by decide +kernel) rfl rfl (by decide) rfl zq_202 zq_203 zq_204 (by decide +kernel) zMk_40 (by decide +kernel) (by decide +kernel) (by decide +kernel)
theorem zr_54_5 : zSnd 54 5 (o_ifne 10 8) := zS_ifne (by decide +kernel : decode (zmB 54) 5 = .ok (.ifCond .ne 5, 3)) rfl (by decide)
theorem zr_54_8 : zSnd 54 8 (o_const 1 9) := zS_iconst (by decide +kernel) rfl (by decide)
theorem zr_54_9 : zSnd 54 9 (o_iret) := zS_iret (by decide +kernel) (by decide +kernel)
theorem zr_54_10 : zSnd 54 10 (o_iload 2 11) := zS_iload_n (i := 2) (by decide +kernel) rfl rfl
theorem zr_54_11 : zSnd 54 11 (o_const 0 12) := zS_iconst (by decide +kernel) rfl (by decide)
theorem zr_54_12 : zSnd 54 12 (o_const 500 15) := zS_sipush (by decide +kernel) rfl (by decide) (by decide)
theorem zr_54_15 : zSnd 54 15 (o_call 38 3 3 1 18) := zS_callS (idx := 33) (by decide +kernel) rfl zq_183 zq_184 (by decide +kernel) zMk_38 (by decide +kernel) (by decide +kernel) (by decide +kernel)
theorem zr_54_18 : zSnd 54 18 (o_ifeq 31 21) := zS_ifeq (by decide +kernel : decode (zmB 54) 18 = .ok (.ifCond .eq 13, 3)) rfl (by decide)
theorem zr_54_21 : zSnd 54 21 (o_iload 3 22) := zS_iload_n (i := 3) (by decide +kernel) rfl rfl
theorem zr_54_22 : zSnd 54 22 (o_const 1 23) := zS_iconst (by decide +kernel) rfl (by decide)
theorem zr_54_23 : zSnd 54 23 (o_const 50 25) := zS_bipush (by decide +kernel) rfl (by decide) (by decide)
theorem zr_54_25 : zSnd 54 25 (o_call 38 3 3 1 28) := zS_callS (idx := 33) (by decide +kernel) rfl zq_183 zq_184 (by decide +kernel) zMk_38 (by decide +kernel) (by decide +kernel) (by decide +kernel)
theorem zr_54_28 : zSnd 54 28 (o_ifne 35 31) := zS_ifne (by decide +kernel : decode (zmB 54) 28 = .ok (.ifCond .ne 7, 3)) rfl (by decide)
theorem zr_54_31 : zSnd 54 31 (o_const 2 32) := zS_iconst (by decide +kernel) rfl (by decide)
theorem zr_54_32 : zSnd 54 32 (o_goto 51) := zS_goto (by decide +kernel : decode (zmB 54) 32 = .ok (.goto 19, 3)) (by decide)
theorem zr_54_35 : zSnd 54 35 (o_aload 0 36) := zS_aload_n (i := 0) (by decide +kernel) rfl rfl
theorem zr_54_36 : zSnd 54 36 (o_getf 6 1 39) := zS_getf (idx := 7) (by decide +kernel) rfl (by decide) rfl (by decide) rfl zin_6 zq_180
theorem zr_54_39 : zSnd 54 39 (o_const 2 40) := zS_iconst (by decide +kernel) rfl (by decide)
theorem zr_54_40 : zSnd 54 40 (o_iald 41) := zS_iald (by decide +kernel) rfl
theorem zr_54_41 : zSnd 54 41 (o_const 6 43) := zS_bipush (by decide +kernel) rfl (by decide) (by decide)
theorem zr_54_43 : zSnd 54 43 (o_cne 50 46) := zS_cne (by decide +kernel : decode (zmB 54) 43 = .ok (.if_icmp .ne 7, 3)) rfl (by decide)
theorem zr_54_46 : zSnd 54 46 (o_const 3 47) := zS_iconst (by decide +kernel) rfl (by decide)
theorem zr_54_47 : zSnd 54 47 (o_goto 51) := zS_goto (by decide +kernel : decode (zmB 54) 47 = .ok (.goto 4, 3)) (by decide)
theorem zr_54_50 : zSnd 54 50 (o_const 0 51) := zS_iconst (by decide +kernel) rfl (by decide)
theorem zr_54_51 : zSnd 54 51 (o_iret) := zS_iret (by decide +kernel) (by decide +kernel)
theorem zT_54 (pc : Nat) : zSnd 54 pc (zc_54 pc) := by
  unfold zc_54
  exact (zSn_nd (zSn_nd (zSn_nd (zSn_nd (zSn_lf zr_54_0) (zSn_nd (zSn_lf zr_54_1) (zSn_lf zr_54_2))) (zSn_nd (zSn_nd (zSn_lf zr_54_5) (zSn_lf zr_54_8)) (zSn_nd (zSn_lf zr_54_9) (zSn_lf zr_54_10)))) (zSn_nd (zSn_nd (zSn_lf zr_54_11) (zSn_nd (zSn_lf zr_54_12) (zSn_lf zr_54_15))) (zSn_nd (zSn_nd (zSn_lf zr_54_18) (zSn_lf zr_54_21)) (zSn_nd (zSn_lf zr_54_22) (zSn_lf zr_54_23))))) (zSn_nd (zSn_nd (zSn_nd (zSn_lf zr_54_25) (zSn_nd (zSn_lf zr_54_28) (zSn_lf zr_54_31))) (zSn_nd (zSn_nd (zSn_lf zr_54_32) (zSn_lf zr_54_35)) (zSn_nd (zSn_lf zr_54_36) (zSn_lf zr_54_39)))) (zSn_nd (zSn_nd (zSn_lf zr_54_40) (zSn_nd (zSn_lf zr_54_41) (zSn_lf zr_54_43))) (zSn_nd (zSn_nd (zSn_lf zr_54_46) (zSn_lf zr_54_47)) (zSn_nd (zSn_lf zr_54_50) (zSn_lf zr_54_51))))))
theorem zr_55_0 : zSnd 55 0 (o_aload 0 1) := zS_aload_n (i := 0) (by decide +kernel) rfl rfl
theorem zr_55_1 : zSnd 55 1 (o_getf 6 1 4) := zS_getf (idx := 7) (by decide +kernel) rfl (by decide) rfl (by decide) rfl zin_6 zq_180
theorem zr_55_4 : zSnd 55 4 (o_const 2 5) := zS_iconst (by decide +kernel) rfl (by decide)
theorem zr_55_5 : zSnd 55 5 (o_iald 6) := zS_iald (by decide +kernel) rfl
theorem zr_55_6 : zSnd 55 6 (o_istore 4 8) := zS_istore (by decide +kernel) rfl (by decide +kernel)
theorem zr_55_8 : zSnd 55 8 (o_aload 0 9) := zS_aload_n (i := 0) (by decide +kernel) rfl rfl
theorem zr_55_9 : zSnd 55 9 (o_getf 6 1 12) := zS_getf (idx := 7) (by decide +kernel) rfl (by decide) rfl (by decide) rfl zin_6 zq_180
theorem zr_55_12 : zSnd 55 12 (o_const 143 15) := zS_sipush (by decide +kernel) rfl (by decide) (by decide)
theorem zr_55_15 : zSnd 55 15 (o_const 3 16) := zS_iconst (by decide +kernel) rfl (by decide)
theorem zr_55_16 : zSnd 55 16 (o_iload 4 18) := zS_iload (by decide +kernel) rfl
theorem zr_55_18 : zSnd 55 18 (o_imul 19) := zS_imul (by decide +kernel) rfl
theorem zr_55_19 : zSnd 55 19 (o_iadd 20) := zS_iadd (by decide +kernel) rfl
theorem zr_55_20 : zSnd 55 20 (o_const 0 21) := zS_iconst (by decide +kernel) rfl (by decide)
theorem zr_55_21 : zSnd 55 21 (o_iadd 22) := zS_iadd (by decide +kernel) rfl
theorem zr_55_22 : zSnd 55 22 (o_iload 1 23) := zS_iload_n (i := 1) (by decide +kernel) rfl rfl
theorem zr_55_23 : zSnd 55 23 (o_iast 24) := zS_iast (by decide +kernel) rfl
theorem zr_55_24 : zSnd 55 24 (o_aload 0 25) := zS_aload_n (i := 0) (by decide +kernel) rfl rfl
theorem zr_55_25 : zSnd 55 25 (o_getf 6 1 28) := zS_getf (idx := 7) (by decide +kernel) rfl (by decide) rfl (by decide) rfl zin_6 zq_180
theorem zr_55_28 : zSnd 55 28 (o_const 143 31) := zS_sipush (by decide +kernel) rfl (by decide) (by decide)
theorem zr_55_31 : zSnd 55 31 (o_const 3 32) := zS_iconst (by decide +kernel) rfl (by decide)
theorem zr_55_32 : zSnd 55 32 (o_iload 4 34) := zS_iload (by decide +kernel) rfl
theorem zr_55_34 : zSnd 55 34 (o_imul 35) := zS_imul (by decide +kernel) rfl
theorem zr_55_35 : zSnd 55 35 (o_iadd 36) := zS_iadd (by decide +kernel) rfl
theorem zr_55_36 : zSnd 55 36 (o_const 1 37) := zS_iconst (by decide +kernel) rfl (by decide)
theorem zr_55_37 : zSnd 55 37 (o_iadd 38) := zS_iadd (by decide +kernel) rfl
theorem zr_55_38 : zSnd 55 38 (o_iload 2 39) := zS_iload_n (i := 2) (by decide +kernel) rfl rfl
theorem zr_55_39 : zSnd 55 39 (o_iast 40) := zS_iast (by decide +kernel) rfl
theorem zr_55_40 : zSnd 55 40 (o_aload 0 41) := zS_aload_n (i := 0) (by decide +kernel) rfl rfl
theorem zr_55_41 : zSnd 55 41 (o_getf 6 1 44) := zS_getf (idx := 7) (by decide +kernel) rfl (by decide) rfl (by decide) rfl zin_6 zq_180
theorem zr_55_44 : zSnd 55 44 (o_const 143 47) := zS_sipush (by decide +kernel) rfl (by decide) (by decide)
theorem zr_55_47 : zSnd 55 47 (o_const 3 48) := zS_iconst (by decide +kernel) rfl (by decide)
theorem zr_55_48 : zSnd 55 48 (o_iload 4 50) := zS_iload (by decide +kernel) rfl
theorem zr_55_50 : zSnd 55 50 (o_imul 51) := zS_imul (by decide +kernel) rfl
theorem zr_55_51 : zSnd 55 51 (o_iadd 52) := zS_iadd (by decide +kernel) rfl
theorem zr_55_52 : zSnd 55 52 (o_const 2 53) := zS_iconst (by decide +kernel) rfl (by decide)
theorem zr_55_53 : zSnd 55 53 (o_iadd 54) := zS_iadd (by decide +kernel) rfl
theorem zr_55_54 : zSnd 55 54 (o_iload 3 55) := zS_iload_n (i := 3) (by decide +kernel) rfl rfl
theorem zr_55_55 : zSnd 55 55 (o_iast 56) := zS_iast (by decide +kernel) rfl
theorem zr_55_56 : zSnd 55 56 (o_aload 0 57) := zS_aload_n (i := 0) (by decide +kernel) rfl rfl
theorem zr_55_57 : zSnd 55 57 (o_getf 6 1 60) := zS_getf (idx := 7) (by decide +kernel) rfl (by decide) rfl (by decide) rfl zin_6 zq_180
theorem zr_55_60 : zSnd 55 60 (o_const 2 61) := zS_iconst (by decide +kernel) rfl (by decide)
theorem zr_55_61 : zSnd 55 61 (o_dup2 62) := zS_dup2 (by decide +kernel) rfl
theorem zr_55_62 : zSnd 55 62 (o_iald 63) := zS_iald (by decide +kernel) rfl
theorem zr_55_63 : zSnd 55 63 (o_const 1 64) := zS_iconst (by decide +kernel) rfl (by decide)
theorem zr_55_64 : zSnd 55 64 (o_iadd 65) := zS_iadd (by decide +kernel) rfl
theorem zr_55_65 : zSnd 55 65 (o_iast 66) := zS_iast (by decide +kernel) rfl
theorem zr_55_66 : zSnd 55 66 (o_iload 4 68) := zS_iload (by decide +kernel) rfl
theorem zr_55_68 : zSnd 55 68 (o_iret) := zS_iret (by decide +kernel) (by decide +kernel)
theorem zT_55 (pc : Nat) : zSnd 55 pc (zc_55 pc) := by
  unfold zc_55
  exact (zSn_nd (zSn_nd (zSn_nd (zSn_nd (zSn_nd (zSn_lf zr_55_0) (zSn_nd (zSn_lf zr_55_1) (zSn_lf zr_55_4))) (zSn_nd (zSn_lf zr_55_5) (zSn_nd (zSn_lf zr_55_6) (zSn_lf zr_55_8)))) (zSn_nd (zSn_nd (zSn_lf zr_55_9) (zSn_nd (zSn_lf zr_55_12) (zSn_lf zr_55_15))) (zSn_nd (zSn_lf zr_55_16) (zSn_nd (zSn_lf zr_55_18) (zSn_lf zr_55_19))))) (zSn_nd (zSn_nd (zSn_nd (zSn_lf zr_55_20) (zSn_nd (zSn_lf zr_55_21) (zSn_lf zr_55_22))) (zSn_nd (zSn_lf zr_55_23) (zSn_nd (zSn_lf zr_55_24) (zSn_lf zr_55_25)))) (zSn_nd (zSn_nd (zSn_lf zr_55_28) (zSn_nd (zSn_lf zr_55_31) (zSn_lf zr_55_32))) (zSn_nd (zSn_lf zr_55_34) (zSn_nd (zSn_lf zr_55_35) (zSn_lf zr_55_36)))))) (zSn_nd (zSn_nd (zSn_nd (zSn_nd (zSn_lf zr_55_37) (zSn_nd (zSn_lf zr_55_38) (zSn_lf zr_55_39))) (zSn_nd (zSn_lf zr_55_40) (zSn_nd (zSn_lf zr_55_41) (zSn_lf zr_55_44)))) (zSn_nd (zSn_nd (zSn_lf zr_55_47) (zSn_nd (zSn_lf zr_55_48) (zSn_lf zr_55_50))) (zSn_nd (zSn_lf zr_55_51) (zSn_nd (zSn_lf zr_55_52) (zSn_lf zr_55_53))))) (zSn_nd (zSn_nd (zSn_nd (zSn_lf zr_55_54) (zSn_nd (zSn_lf zr_55_55) (zSn_lf zr_55_56))) (zSn_nd (zSn_lf zr_55_57) (zSn_nd (zSn_lf zr_55_60) (zSn_lf zr_55_61)))) (zSn_nd (zSn_nd (zSn_lf zr_55_62) (zSn_nd (zSn_lf zr_55_63) (zSn_lf zr_55_64))) (zSn_nd (zSn_lf zr_55_65) (zSn_nd (zSn_lf zr_55_66) (zSn_lf zr_55_68)))))))
theorem zr_56_0 : zSnd 56 0 (o_aload 0 1) := zS_aload_n (i := 0) (by decide +kernel) rfl rfl
theorem zr_56_1 : zSnd 56 1 (o_aload 0 2) := zS_aload_n (i := 0) (by decide +kernel) rfl rfl
theorem zr_56_2 : zSnd 56 2 (o_iload 1 3) := zS_iload_n (i := 1) (by decide +kernel) rfl rfl
theorem zr_56_3 : zSnd 56 3 (o_iload 2 4) := zS_iload_n (i := 2) (by decide +kernel) rfl rfl
theorem zr_56_4 : zSnd 56 4 (o_iload 3 5) := zS_iload_n (i := 3) (by decide +kernel) rfl rfl
theorem zr_56_5 : zSnd 56 5 (o_callv 6 54 4 4 1 8) := zS_callV (n := 3) (idx := 67) (by decide +kernel) rfl rfl (by decide) rfl zq_211 zq_212 zq_213 (by decide +kernel) zMk_54 (by decide +kernel) (by decide +kernel) (by decide +kernel)
theorem zr_56_8 : zSnd 56 8 (o_putf 6 0 11) := zS_putf (idx := 22) (by decide +kernel) rfl (by decide) rfl (by decide) rfl zin_6 tyX5_ok nmX5 rfl (by decide +kernel) zq_177
theorem zr_56_11 : zSnd 56 11 (o_aload 0 12) := zS_aload_n (i := 0) (by decide +kernel) rfl rfl
theorem zr_56_12 : zSnd 56 12 (o_getf 6 0 15) := zS_getf (idx := 22) (by decide +kernel) rfl (by decide) rfl (by decide) rfl zin_6 zq_177
theorem zr_56_15 : zSnd 56 15 (o_ifle 20 18) := zS_ifle (by decide +kernel : decode (zmB 56) 15 = .ok (.ifCond .le 5, 3)) rfl (by decide)
theorem zr_56_18 : zSnd 56 18 (o_const 0 19) := zS_iconst (by decide +kernel) rfl (by decide)
theorem zr_56_19 : zSnd 56 19 (o_iret) := zS_iret (by decide +kernel) (by decide +kernel)
theorem zr_56_20 : zSnd 56 20 (o_aload 0 21) := zS_aload_n (i := 0) (by decide +kernel) rfl rfl
theorem zr_56_21 : zSnd 56 21 (o_callv 6 39 1 2 0 24) := zS_callV (n := 0) (idx := 48) (by decide +kernel) rfl rfl (by decide) rfl zq_193 zq_194 zq_195 (by decide +kernel) zMk_39 (by decide +kernel) (by decide +kernel) (by decide +kernel)
theorem zr_56_24 : zSnd 56 24 (o_aload 0 25) := zS_aload_n (i := 0) (by decide +kernel) rfl rfl
theorem zr_56_25 : zSnd 56 25 (o_iload 1 26) := zS_iload_n (i := 1) (by decide +kernel) rfl rfl
theorem zr_56_26 : zSnd 56 26 (o_iload 2 27) := zS_iload_n (i := 2) (by decide +kernel) rfl rfl
theorem zr_56_27 : zSnd 56 27 (o_iload 3 28) := zS_iload_n (i := 3) (by decide +kernel) rfl rfl
theorem zr_56_28 : zSnd 56 28 (o_callv 6 55 4 5 1 31) := zS_callV (n := 3) (idx := 70) (by decide +kernel) rfl rfl (by decide) rfl zq_214 zq_215 zq_216 (by decide +kernel) zMk_55 (by decide +kernel) (by decide +kernel) (by decide +kernel)
theorem zr_56_31 : zSnd 56 31 (o_iret) := zS_iret (by decide +kernel) (by decide +kernel)
theorem zT_56 (pc : Nat) : zSnd 56 pc (zc_56 pc) := by
  unfold zc_56
  exact (zSn_nd (zSn_nd (zSn_nd (zSn_nd (zSn_lf zr_56_0) (zSn_lf zr_56_1)) (zSn_nd (zSn_lf zr_56_2) (zSn_nd (zSn_lf zr_56_3) (zSn_lf zr_56_4)))) (zSn_nd (zSn_nd (zSn_lf zr_56_5) (zSn_lf zr_56_8)) (zSn_nd (zSn_lf zr_56_11) (zSn_nd (zSn_lf zr_56_12) (zSn_lf zr_56_15))))) (zSn_nd (zSn_nd (zSn_nd (zSn_lf zr_56_18) (zSn_lf zr_56_19)) (zSn_nd (zSn_lf zr_56_20) (zSn_nd (zSn_lf zr_56_21) (zSn_lf zr_56_24)))) (zSn_nd (zSn_nd (zSn_lf zr_56_25) (zSn_lf zr_56_26)) (zSn_nd (zSn_lf zr_56_27) (zSn_nd (zSn_lf zr_56_28) (zSn_lf zr_56_31))))))
theorem zr_57_0 : zSnd 57 0 (o_aload 0 1) := zS_aload_n (i := 0) (by decide +kernel) rfl rfl
theorem zr_57_1 : zSnd 57 1 (o_aload 0 2) := zS_aload_n (i := 0) (by decide +kernel) rfl rfl
theorem zr_57_2 : zSnd 57 2 (o_getf 6 1 5) := zS_getf (idx := 7) (by decide +kernel) rfl (by decide) rfl (by decide) rfl zin_6 zq_180
theorem zr_57_5 : zSnd 57 5 (o_const 2 6) := zS_iconst (by decide +kernel) rfl (by decide)
theorem zr_57_6 : zSnd 57 6 (o_iald 7) := zS_iald (by decide +kernel) rfl
theorem zr_57_7 : zSnd 57 7 (o_ifle 14 10) := zS_ifle (by decide +kernel : decode (zmB 57) 7 = .ok (.ifCond .le 7, 3)) rfl (by decide)
theorem zr_57_10 : zSnd 57 10 (o_const 0 11) := zS_iconst (by decide +kernel) rfl (by decide)
theorem zr_57_11 : zSnd 57 11 (o_goto 15) := zS_goto (by decide +kernel : decode (zmB 57) 11 = .ok (.goto 4, 3)) (by decide)
theorem zr_57_14 : zSnd 57 14 (o_const 1 15) := zS_iconst (by decide +kernel) rfl (by decide)
theorem zr_57_15 : zSnd 57 15 (o_putf 6 0 18) := zS_putf (idx := 22) (by decide +kernel) rfl (by decide) rfl (by decide) rfl zin_6 tyX5_ok nmX5 rfl (by decide +kernel) zq_177
theorem zr_57_18 : zSnd 57 18 (o_aload 0 19) := zS_aload_n (i := 0) (by decide +kernel) rfl rfl
theorem zr_57_19 : zSnd 57 19 (o_getf 6 0 22) := zS_getf (idx := 22) (by decide +kernel) rfl (by decide) rfl (by decide) rfl zin_6 zq_177
theorem zr_57_22 : zSnd 57 22 (o_ifle 27 25) := zS_ifle (by decide +kernel : decode (zmB 57) 22 = .ok (.ifCond .le 5, 3)) rfl (by decide)
theorem zr_57_25 : zSnd 57 25 (o_const 0 26) := zS_iconst (by decide +kernel) rfl (by decide)
theorem zr_57_26 : zSnd 57 26 (o_iret) := zS_iret (by decide +kernel) (by decide +kernel)
theorem zr_57_27 : zSnd 57 27 (o_aload 0 28) := zS_aload_n (i := 0) (by decide +kernel) rfl rfl
theorem zr_57_28 : zSnd 57 28 (o_callv 6 39 1 2 0 31) := zS_callV (n := 0) (idx := 48) (by decide +kernel) rfl rfl (by decide) rfl zq_193 zq_194 zq_195 (by decide +kernel) zMk_39 (by decide +kernel) (by decide +kernel) (by decide +kernel)
theorem zr_57_31 : zSnd 57 31 (o_aload 0 32) := zS_aload_n (i := 0) (by decide +kernel) rfl rfl
theorem zr_57_32 : zSnd 57 32 (o_getf 6 1 35) := zS_getf (idx := 7) (by decide +kernel) rfl (by decide) rfl (by decide) rfl zin_6 zq_180
theorem zr_57_35 : zSnd 57 35 (o_const 2 36) := zS_iconst (by decide +kernel) rfl (by decide)
theorem zr_57_36 : zSnd 57 36 (o_dup2 37) := zS_dup2 (by decide +kernel) rfl
theorem zr_57_37 : zSnd 57 37 (o_iald 38) := zS_iald (by decide +kernel) rfl
theorem zr_57_38 : zSnd 57 38 (o_const 1 39) := zS_iconst (by decide +kernel) rfl (by decide)
theorem zr_57_39 : zSnd 57 39 (o_isub 40) := zS_isub (by decide +kernel) rfl
theorem zr_57_40 : zSnd 57 40 (o_iast 41) := zS_iast (by decide +kernel) rfl
theorem zr_57_41 : zSnd 57 41 (o_aload 0 42) := zS_aload_n (i := 0) (by decide +kernel) rfl rfl
theorem zr_57_42 : zSnd 57 42 (o_getf 6 1 45) := zS_getf (idx := 7) (by decide +kernel) rfl (by decide) rfl (by decide) rfl zin_6 zq_180
theorem zr_57_45 : zSnd 57 45 (o_const 2 46) := zS_iconst (by decide +kernel) rfl (by decide)
theorem zr_57_46 : zSnd 57 46 (o_iald 47) := zS_iald (by decide +kernel) rfl
theorem zr_57_47 : zSnd 57 47 (o_iret) := zS_iret (by decide +kernel) (by decide +kernel)
theorem zT_57 (pc : Nat) : zSnd 57 pc (zc_57 pc) := by
  unfold zc_57
  exact (zSn_nd (zSn_nd (zSn_nd (zSn_nd (zSn_lf zr_57_0) (zSn_nd (zSn_lf zr_57_1) (zSn_lf zr_57_2))) (zSn_nd (zSn_nd (zSn_lf zr_57_5) (zSn_lf zr_57_6)) (zSn_nd (zSn_lf zr_57_7) (zSn_lf zr_57_10)))) (zSn_nd (zSn_nd (zSn_nd (zSn_lf zr_57_11) (zSn_lf zr_57_14)) (zSn_nd (zSn_lf zr_57_15) (zSn_lf zr_57_18))) (zSn_nd (zSn_nd (zSn_lf zr_57_19) (zSn_lf zr_57_22)) (zSn_nd (zSn_lf zr_57_25) (zSn_lf zr_57_26))))) (zSn_nd (zSn_nd (zSn_nd (zSn_lf zr_57_27) (zSn_nd (zSn_lf zr_57_28) (zSn_lf zr_57_31))) (zSn_nd (zSn_nd (zSn_lf zr_57_32) (zSn_lf zr_57_35)) (zSn_nd (zSn_lf zr_57_36) (zSn_lf zr_57_37)))) (zSn_nd (zSn_nd (zSn_nd (zSn_lf zr_57_38) (zSn_lf zr_57_39)) (zSn_nd (zSn_lf zr_57_40) (zSn_lf zr_57_41))) (zSn_nd (zSn_nd (zSn_lf zr_57_42) (zSn_lf zr_57_45)) (zSn_nd (zSn_lf zr_57_46) (zSn_lf zr_57_47))))))
theorem zr_58_0 : zSnd 58 0 (o_aload 0 1) := zS_aload_n (i := 0) (by decide +kernel) rfl rfl
theorem zr_58_1 : zSnd 58 1 (o_iload 1 2) := zS_iload_n (i := 1) (by decide +kernel) rfl rfl
theorem zr_58_2 : zSnd 58 2 (o_iload 2 3) := zS_iload_n (i := 2) (by decide +kernel) rfl rfl
theorem zr_58_3 : zSnd 58 3 (o_const 0 4) := zS_iconst (by decide +kernel) rfl (by decide)
theorem zr_58_4 : zSnd 58 4 (o_callv 6 44 4 4 1 7) := zS_callV (n := 3) (idx := 73) (by decide +kernel) rfl rfl (by decide) rfl zq_217 zq_218 zq_219 (by decide +kernel) zMk_44 (by decide +kernel) (by decide +kernel) (by decide +kernel)
theorem zr_58_7 : zSnd 58 7 (o_istore 4 9) := zS_istore (by decide +kernel) rfl (by decide +kernel)
theorem zr_58_9 : zSnd 58 9 (o_iload 3 10) := zS_iload_n (i := 3) (by decide +kernel) rfl rfl
theorem zr_58_10 : zSnd 58 10 (o_aload 0 11) := zS_aload_n (i := 0) (by decide +kernel) rfl rfl
theorem zr_58_11 : zSnd 58 11 (o_iload 1 12) := zS_iload_n (i := 1) (by decide +kernel) rfl rfl
theorem zr_58_12 : zSnd 58 12 (o_iload 2 13) := zS_iload_n (i := 2) (by decide +kernel) rfl rfl
theorem zr_58_13 : zSnd 58 13 (o_const 1 14) := zS_iconst (by decide +kernel) rfl (by decide)
theorem zr_58_14 : zSnd 58 14 (o_callv 6 44 4 4 1 17) := zS_callV (n := 3) (idx := 73) (by decide +kernel) rfl rfl (by decide) rfl zq_217 zq_218 zq_219 (by decide +kernel) zMk_44 (by decide +kernel) (by decide +kernel) (by decide +kernel)
theorem zr_58_17 : zSnd 58 17 (o_iadd 18) := zS_iadd (by decide +kernel) rfl
theorem zr_58_18 : zSnd 58 18 (o_istore 5 20) := zS_istore (by decide +kernel) rfl (by decide +kernel)
theorem zr_58_20 : zSnd 58 20 (o_const (-1) 21) := zS_iconst (by decide +kernel) rfl (by decide)
theorem zr_58_21 : zSnd 58 21 (o_istore 6 23) := zS_istore (by decide +kernel) rfl (by decide +kernel)
theorem zr_58_23 : zSnd 58 23 (o_const 0 24) := zS_iconst (by decide +kernel) rfl (by decide)
theorem zr_58_24 : zSnd 58 24 (o_istore 7 26) := zS_istore (by decide +kernel) rfl (by decide +kernel)
theorem zr_58_26 : zSnd 58 26 (o_iload 7 28) := zS_iload (by decide +kernel) rfl
theorem zr_58_28 : zSnd 58 28 (o_aload 0 29) := zS_aload_n (i := 0) (by decide +kernel) rfl rfl
theorem zr_58_29 : zSnd 58 29 (o_getf 6 1 32) := zS_getf (idx := 7) (by decide +kernel) rfl (by decide) rfl (by decide) rfl zin_6 zq_180
theorem zr_58_32 : zSnd 58 32 (o_const 2 33) := zS_iconst (by decide +kernel) rfl (by decide)
theorem zr_58_33 : zSnd 58 33 (o_iald 34) := zS_iald (by decide +kernel) rfl
theorem zr_58_34 : zSnd 58 34 (o_cge 111 37) := zS_cge (by decide +kernel : decode (zmB 58) 34 = .ok (.if_icmp .ge 77, 3)) rfl (by decide)
theorem zr_58_37 : zSnd 58 37 (o_aload 0 38) := zS_aload_n (i := 0) (by decide +kernel) rfl rfl
theorem zr_58_38 : zSnd 58 38 (o_iload 7 40) := zS_iload (by decide +kernel) rfl
theorem zr_58_40 : zSnd 58 40 (o_const 1 41) := zS_iconst (by decide +kernel) rfl (by decide)
theorem zr_58_41 : zSnd 58 41 (o_callv 6 46 3 3 1 44) := zS_callV (n := 2) (idx := 76) (by decide +kernel) rfl rfl (by decide) rfl zq_220 zq_221 zq_222 (by decide +kernel) zMk_46 (by decide +kernel) (by decide +kernel) (by decide +kernel)
theorem zr_58_44 : zSnd 58 44 (o_aload 0 45) := zS_aload_n (i := 0) (by decide +kernel) rfl rfl
theorem zr_58_45 : zSnd 58 45 (o_iload 7 47) := zS_iload (by decide +kernel) rfl
theorem zr_58_47 : zSnd 58 47 (o_const 2 48) := zS_iconst (by decide +kernel) rfl (by decide)
theorem zr_58_48 : zSnd 58 48 (o_callv 6 46 3 3 1 51) := zS_callV (n := 2) (idx := 76) (by decide +kernel) rfl rfl (by decide) rfl zq_220 zq_221 zq_222 (by decide +kernel) zMk_46 (by decide +kernel) (by decide +kernel) (by decide +kernel)
theorem zr_58_51 : zSnd 58 51 (o_iadd 52) := zS_iadd (by decide +kernel) rfl
theorem zr_58_52 : zSnd 58 52 (o_istore 8 54) := zS_istore (by decide +kernel) rfl (by decide +kernel)
theorem zr_58_54 : zSnd 58 54 (o_aload 0 55) := zS_aload_n (i := 0) (by decide +kernel) rfl rfl
theorem zr_58_55 : zSnd 58 55 (o_iload 7 57) := zS_iload (by decide +kernel) rfl
theorem zr_58_57 : zSnd 58 57 (o_const 0 58) := zS_iconst (by decide +kernel) rfl (by decide)
theorem zr_58_58 : zSnd 58 58 (o_callv 6 46 3 3 1 61) := zS_callV (n := 2) (idx := 76) (by decide +kernel) rfl rfl (by decide) rfl zq_220 zq_221 zq_222 (by decide +kernel) zMk_46 (by decide +kernel) (by decide +kernel) (by decide +kernel)
theorem zr_58_61 : zSnd 58 61 (o_iload 4 63) := zS_iload (by decide +kernel) rfl
theorem zr_58_63 : zSnd 58 63 (o_cne 88 66) := zS_cne (by decide +kernel : decode (zmB 58) 63 = .ok (.if_icmp .ne 25, 3)) rfl (by decide)
theorem zr_58_66 : zSnd 58 66 (o_iload 3 67) := zS_iload_n (i := 3) (by decide +kernel) rfl rfl
theorem zr_58_67 : zSnd 58 67 (o_iload 8 69) := zS_iload (by decide +kernel) rfl
theorem zr_58_69 : zSnd 58 69 (o_cge 88 72) := zS_cge (by decide +kernel : decode (zmB 58) 69 = .ok (.if_icmp .ge 19, 3)) rfl (by decide)
theorem zr_58_72 : zSnd 58 72 (o_iload 5 74) := zS_iload (by decide +kernel) rfl
theorem zr_58_74 : zSnd 58 74 (o_aload 0 75) := zS_aload_n (i := 0) (by decide +kernel) rfl rfl
theorem zr_58_75 : zSnd 58 75 (o_iload 7 77) := zS_iload (by decide +kernel) rfl
theorem zr_58_77 : zSnd 58 77 (o_const 1 78) := zS_iconst (by decide +kernel) rfl (by decide)
theorem zr_58_78 : zSnd 58 78 (o_callv 6 46 3 3 1 81) := zS_callV (n := 2) (idx := 76) (by decide +kernel) rfl rfl (by decide) rfl zq_220 zq_221 zq_222 (by decide +kernel) zMk_46 (by decide +kernel) (by decide +kernel) (by decide +kernel)
theorem zr_58_81 : zSnd 58 81 (o_cle 88 84) := zS_cle (by decide +kernel : decode (zmB 58) 81 = .ok (.if_icmp .le 7, 3)) rfl (by decide)
theorem zr_58_84 : zSnd 58 84 (o_const 1 85) := zS_iconst (by decide +kernel) rfl (by decide)
theorem zr_58_85 : zSnd 58 85 (o_goto 89) := zS_goto (by decide +kernel : decode (zmB 58) 85 = .ok (.goto 4, 3)) (by decide)
theorem zr_58_88 : zSnd 58 88 (o_const 0 89) := zS_iconst (by decide +kernel) rfl (by decide)
theorem zr_58_89 : zSnd 58 89 (o_istore 9 91) := zS_istore (by decide +kernel) rfl (by decide +kernel)
theorem zr_58_91 : zSnd 58 91 (o_iload 9 93) := zS_iload (by decide +kernel) rfl
theorem zr_58_93 : zSnd 58 93 (o_ifeq 101 96) := zS_ifeq (by decide +kernel : decode (zmB 58) 93 = .ok (.ifCond .eq 8, 3)) rfl (by decide)
theorem zr_58_96 : zSnd 58 96 (o_iload 8 98) := zS_iload (by decide +kernel) rfl
theorem zr_58_98 : zSnd 58 98 (o_goto 103) := zS_goto (by decide +kernel : decode (zmB 58) 98 = .ok (.goto 5, 3)) (by decide)
theorem zr_58_101 : zSnd 58 101 (o_iload 6 103) := zS_iload (by decide +kernel) rfl
theorem zr_58_103 : zSnd 58 103 (o_istore 6 105) := zS_istore (by decide +kernel) rfl (by decide +kernel)
theorem zr_58_105 : zSnd 58 105 (o_iinc 7 1 108) := zS_iinc (by decide +kernel) rfl (by decide +kernel)
theorem zr_58_108 : zSnd 58 108 (o_goto 26) := zS_goto (by decide +kernel : decode (zmB 58) 108 = .ok (.goto (-82), 3)) (by decide)
theorem zr_58_111 : zSnd 58 111 (o_iload 6 113) := zS_iload (by decide +kernel) rfl
theorem zr_58_113 : zSnd 58 113 (o_iret) := zS_iret (by decide +kernel) (by decide +kernel)
theorem zT_58 (pc : Nat) : zSnd 58 pc (zc_58 pc) := by
  unfold zc_58
  exact (zSn_nd (zSn_nd (zSn_nd (zSn_nd (zSn_nd (zSn_lf zr_58_0) (zSn_nd (zSn_lf zr_58_1) (zSn_lf zr_58_2))) (zSn_nd (zSn_nd (zSn_lf zr_58_3) (zSn_lf zr_58_4)) (zSn_nd (zSn_lf zr_58_7) (zSn_lf zr_58_9)))) (zSn_nd (zSn_nd (zSn_nd (zSn_lf zr_58_10) (zSn_lf zr_58_11)) (zSn_nd (zSn_lf zr_58_12) (zSn_lf zr_58_13))) (zSn_nd (zSn_nd (zSn_lf zr_58_14) (zSn_lf zr_58_17)) (zSn_nd (zSn_lf zr_58_18) (zSn_lf zr_58_20))))) (zSn_nd (zSn_nd (zSn_nd (zSn_nd (zSn_lf zr_58_21) (zSn_lf zr_58_23)) (zSn_nd (zSn_lf zr_58_24) (zSn_lf zr_58_26))) (zSn_nd (zSn_nd (zSn_lf zr_58_28) (zSn_lf zr_58_29)) (zSn_nd (zSn_lf zr_58_32) (zSn_lf zr_58_33)))) (zSn_nd (zSn_nd (zSn_nd (zSn_lf zr_58_34) (zSn_lf zr_58_37)) (zSn_nd (zSn_lf zr_58_38) (zSn_lf zr_58_40))) (zSn_nd (zSn_nd (zSn_lf zr_58_41) (zSn_lf zr_58_44)) (zSn_nd (zSn_lf zr_58_45) (zSn_lf zr_58_47)))))) (zSn_nd (zSn_nd (zSn_nd (zSn_nd (zSn_nd (zSn_lf zr_58_48) (zSn_lf zr_58_51)) (zSn_nd (zSn_lf zr_58_52) (zSn_lf zr_58_54))) (zSn_nd (zSn_nd (zSn_lf zr_58_55) (zSn_lf zr_58_57)) (zSn_nd (zSn_lf zr_58_58) (zSn_lf zr_58_61)))) (zSn_nd (zSn_nd (zSn_nd (zSn_lf zr_58_63) (zSn_lf zr_58_66)) (zSn_nd (zSn_lf zr_58_67) (zSn_lf zr_58_69))) (zSn_nd (zSn_nd (zSn_lf zr_58_72) (zSn_lf zr_58_74)) (zSn_nd (zSn_lf zr_58_75) (zSn_lf zr_58_77))))) (zSn_nd (zSn_nd (zSn_nd (zSn_nd (zSn_lf zr_58_78) (zSn_lf zr_58_81)) (zSn_nd (zSn_lf zr_58_84) (zSn_lf zr_58_85))) (zSn_nd (zSn_nd (zSn_lf zr_58_88) (zSn_lf zr_58_89)) (zSn_nd (zSn_lf zr_58_91) (zSn_lf zr_58_93)))) (zSn_nd (zSn_nd (zSn_nd (zSn_lf zr_58_96) (zSn_lf zr_58_98)) (zSn_nd (zSn_lf zr_58_101) (zSn_lf zr_58_103))) (zSn_nd (zSn_nd (zSn_lf zr_58_105) (zSn_lf zr_58_108)) (zSn_nd (zSn_lf zr_58_111) (zSn_lf zr_58_113)))))))
theorem zr_59_0 : zSnd 59 0 (o_iload 3 1) := zS_iload_n (i := 3) (by decide +kernel) rfl rfl
theorem zr_59_1 : zSnd 59 1 (o_istore 4 3) := zS_istore (by decide +kernel) rfl (by decide +kernel)
theorem zr_59_3 : zSnd 59 3 (o_aload 0 4) := zS_aload_n (i := 0) (by decide +kernel) rfl rfl
theorem zr_59_4 : zSnd 59 4 (o_iload 1 5) := zS_iload_n (i := 1) (by decide +kernel) rfl rfl
theorem zr_59_5 : zSnd 59 5 (o_iload 2 6) := zS_iload_n (i := 2) (by decide +kernel) rfl rfl
theorem zr_59_6 : zSnd 59 6 (o_iload 4 8) := zS_iload (by decide +kernel) rfl
theorem zr_59_8 : zSnd 59 8 (o_callv 6 58 4 10 1 11) := zS_callV (n := 3) (idx := 79) (by decide +kernel) rfl rfl (by decide) rfl zq_223 zq_224 zq_225 (by decide +kernel) zMk_58 (by decide +kernel) (by decide +kernel) (by decide +kernel)
theorem zr_59_11 : zSnd 59 11 (o_istore 5 13) := zS_istore (by decide +kernel) rfl (by decide +kernel)
theorem zr_59_13 : zSnd 59 13 (o_iload 5 15) := zS_iload (by decide +kernel) rfl
theorem zr_59_15 : zSnd 59 15 (o_const (-1) 16) := zS_iconst (by decide +kernel) rfl (by decide)
theorem zr_59_16 : zSnd 59 16 (o_ceq 36 19) := zS_ceq (by decide +kernel : decode (zmB 59) 16 = .ok (.if_icmp .eq 20, 3)) rfl (by decide)
theorem zr_59_19 : zSnd 59 19 (o_iload 5 21) := zS_iload (by decide +kernel) rfl
theorem zr_59_21 : zSnd 59 21 (o_istore 4 23) := zS_istore (by decide +kernel) rfl (by decide +kernel)
theorem zr_59_23 : zSnd 59 23 (o_aload 0 24) := zS_aload_n (i := 0) (by decide +kernel) rfl rfl
theorem zr_59_24 : zSnd 59 24 (o_iload 1 25) := zS_iload_n (i := 1) (by decide +kernel) rfl rfl
theorem zr_59_25 : zSnd 59 25 (o_iload 2 26) := zS_iload_n (i := 2) (by decide +kernel) rfl rfl
theorem zr_59_26 : zSnd 59 26 (o_iload 4 28) := zS_iload (by decide +kernel) rfl
theorem zr_59_28 : zSnd 59 28 (o_callv 6 58 4 10 1 31) := zS_callV (n := 3) (idx := 79) (by decide +kernel) rfl rfl (by decide) rfl zq_223 zq_224 zq_225 (by decide +kernel) zMk_58 (by decide +kernel) (by decide +kernel) (by decide +kernel)
theorem zr_59_31 : zSnd 59 31 (o_istore 5 33) := zS_istore (by decide +kernel) rfl (by decide +kernel)
theorem zr_59_33 : zSnd 59 33 (o_goto 13) := zS_goto (by decide +kernel : decode (zmB 59) 33 = .ok (.goto (-20), 3)) (by decide)
theorem zr_59_36 : zSnd 59 36 (o_iload 4 38) := zS_iload (by decide +kernel) rfl
theorem zr_59_38 : zSnd 59 38 (o_iret) := zS_iret (by decide +kernel) (by decide +kernel)
theorem zT_59 (pc : Nat) : zSnd 59 pc (zc_59 pc) := by
  unfold zc_59
  exact (zSn_nd (zSn_nd (zSn_nd (zSn_nd (zSn_lf zr_59_0) (zSn_lf zr_59_1)) (zSn_nd (zSn_lf zr_59_3) (zSn_nd (zSn_lf zr_59_4) (zSn_lf zr_59_5)))) (zSn_nd (zSn_nd (zSn_lf zr_59_6) (zSn_nd (zSn_lf zr_59_8) (zSn_lf zr_59_11))) (zSn_nd (zSn_lf zr_59_13) (zSn_nd (zSn_lf zr_59_15) (zSn_lf zr_59_16))))) (zSn_nd (zSn_nd (zSn_nd (zSn_lf zr_59_19) (zSn_lf zr_59_21)) (zSn_nd (zSn_lf zr_59_23) (zSn_nd (zSn_lf zr_59_24) (zSn_lf zr_59_25)))) (zSn_nd (zSn_nd (zSn_lf zr_59_26) (zSn_nd (zSn_lf zr_59_28) (zSn_lf zr_59_31))) (zSn_nd (zSn_lf zr_59_33) (zSn_nd (zSn_lf zr_59_36) (zSn_lf zr_59_38))))))
theorem zr_60_0 : zSnd 60 0 (o_aload 0 1) := zS_aload_n (i := 0) (by decide +kernel) rfl rfl
theorem zr_60_1 : zSnd 60 1 (o_iload 1 2) := zS_iload_n (i := 1) (by decide +kernel) rfl rfl
theorem zr_60_2 : zSnd 60 2 (o_iload 2 3) := zS_iload_n (i := 2) (by decide +kernel) rfl rfl
theorem zr_60_3 : zSnd 60 3 (o_iload 3 4) := zS_iload_n (i := 3) (by decide +kernel) rfl rfl
theorem zr_60_4 : zSnd 60 4 (o_callv 6 44 4 4 1 7) := zS_callV (n := 3) (idx := 73) (by decide +kernel) rfl rfl (by decide) rfl zq_217 zq_218 zq_219 (by decide +kernel) zMk_44 (by decide +kernel) (by decide +kernel) (by decide +kernel)
theorem zr_60_7 : zSnd 60 7 (o_aload 0 8) := zS_aload_n (i := 0) (by decide +kernel) rfl rfl
theorem zr_60_8 : zSnd 60 8 (o_iload 1 9) := zS_iload_n (i := 1) (by decide +kernel) rfl rfl
theorem zr_60_9 : zSnd 60 9 (o_iload 2 10) := zS_iload_n (i := 2) (by decide +kernel) rfl rfl
theorem zr_60_10 : zSnd 60 10 (o_const 1 11) := zS_iconst (by decide +kernel) rfl (by decide)
theorem zr_60_11 : zSnd 60 11 (o_callv 6 44 4 4 1 14) := zS_callV (n := 3) (idx := 73) (by decide +kernel) rfl rfl (by decide) rfl zq_217 zq_218 zq_219 (by decide +kernel) zMk_44 (by decide +kernel) (by decide +kernel) (by decide +kernel)
theorem zr_60_14 : zSnd 60 14 (o_iadd 15) := zS_iadd (by decide +kernel) rfl
theorem zr_60_15 : zSnd 60 15 (o_iret) := zS_iret (by decide +kernel) (by decide +kernel)
theorem zT_60 (pc : Nat) : zSnd 60 pc (zc_60 pc) := by
  unfold zc_60
  exact (zSn_nd (zSn_nd (zSn_nd (zSn_lf zr_60_0) (zSn_nd (zSn_lf zr_60_1) (zSn_lf zr_60_2))) (zSn_nd (zSn_lf zr_60_3) (zSn_nd (zSn_lf zr_60_4) (zSn_lf zr_60_7)))) (zSn_nd (zSn_nd (zSn_lf zr_60_8) (zSn_nd (zSn_lf zr_60_9) (zSn_lf zr_60_10))) (zSn_nd (zSn_lf zr_60_11) (zSn_nd (zSn_lf zr_60_14) (zSn_lf zr_60_15)))))
theorem zr_61_0 : zSnd 61 0 (o_const 0 1) := zS_iconst (by decide +kernel) rfl (by decide)
theorem zr_61_1 : zSnd 61 1 (o_istore 2 2) := zS_istore_n (i := 2) (by decide +kernel) rfl rfl (by decide +kernel)
theorem zr_61_2 : zSnd 61 2 (o_iload 2 3) := zS_iload_n (i := 2) (by decide +kernel) rfl rfl
theorem zr_61_3 : zSnd 61 3 (o_aload 0 4) := zS_aload_n (i := 0) (by decide +kernel) rfl rfl
theorem zr_61_4 : zSnd 61 4 (o_iload 1 5) := zS_iload_n (i := 1) (by decide +kernel) rfl rfl
theorem zr_61_5 : zSnd 61 5 (o_const 2 6) := zS_iconst (by decide +kernel) rfl (by decide)
theorem zr_61_6 : zSnd 61 6 (o_callv 6 42 3 3 1 9) := zS_callV (n := 2) (idx := 45) (by decide +kernel) rfl rfl (by decide) rfl zq_190 zq_191 zq_192 (by decide +kernel) zMk_42 (by decide +kernel) (by decide +kernel) (by decide +kernel)
theorem zr_61_9 : zSnd 61 9 (o_cge 29 12) := zS_cge (by decide +kernel : decode (zmB 61) 9 = .ok (.if_icmp .ge 20, 3)) rfl (by decide)
theorem zr_61_12 : zSnd 61 12 (o_aload 0 13) := zS_aload_n (i := 0) (by decide +kernel) rfl rfl
theorem zr_61_13 : zSnd 61 13 (o_iload 1 14) := zS_iload_n (i := 1) (by decide +kernel) rfl rfl
theorem zr_61_14 : zSnd 61 14 (o_iload 2 15) := zS_iload_n (i := 2) (by decide +kernel) rfl rfl
theorem zr_61_15 : zSnd 61 15 (o_const 3 16) := zS_iconst (by decide +kernel) rfl (by decide)
theorem zr_61_16 : zSnd 61 16 (o_callv 6 44 4 4 1 19) := zS_callV (n := 3) (idx := 73) (by decide +kernel) rfl rfl (by decide) rfl zq_217 zq_218 zq_219 (by decide +kernel) zMk_44 (by decide +kernel) (by decide +kernel) (by decide +kernel)
theorem zr_61_19 : zSnd 61 19 (o_const (-1) 20) := zS_iconst (by decide +kernel) rfl (by decide)
theorem zr_61_20 : zSnd 61 20 (o_ceq 29 23) := zS_ceq (by decide +kernel : decode (zmB 61) 20 = .ok (.if_icmp .eq 9, 3)) rfl (by decide)
theorem zr_61_23 : zSnd 61 23 (o_iinc 2 1 26) := zS_iinc (by decide +kernel) rfl (by decide +kernel)
theorem zr_61_26 : zSnd 61 26 (o_goto 2) := zS_goto (by decide +kernel : decode (zmB 61) 26 = .ok (.goto (-24), 3)) (by decide)
theorem zr_61_29 : zSnd 61 29 (o_iload 2 30) := zS_iload_n (i := 2) (by decide +kernel) rfl rfl
theorem zr_61_30 : zSnd 61 30 (o_iret) := zS_iret (by decide +kernel) (by decide +kernel)
theorem zT_61 (pc : Nat) : zSnd 61 pc (zc_61 pc) := by
  unfold zc_61
  exact (zSn_nd (zSn_nd (zSn_nd (zSn_nd (zSn_lf zr_61_0) (zSn_lf zr_61_1)) (zSn_nd (zSn_lf zr_61_2) (zSn_lf zr_61_3))) (zSn_nd (zSn_nd (zSn_lf zr_61_4) (zSn_lf zr_61_5)) (zSn_nd (zSn_lf zr_61_6) (zSn_nd (zSn_lf zr_61_9) (zSn_lf zr_61_12))))) (zSn_nd (zSn_nd (zSn_nd (zSn_lf zr_61_13) (zSn_lf zr_61_14)) (zSn_nd (zSn_lf zr_61_15) (zSn_nd (zSn_lf zr_61_16) (zSn_lf zr_61_19)))) (zSn_nd (zSn_nd (zSn_lf zr_61_20) (zSn_lf zr_61_23)) (zSn_nd (zSn_lf zr_61_26) (zSn_nd (zSn_lf zr_61_29) (zSn_lf zr_61_30))))))
theorem zr_62_0 : zSnd 62 0 (o_iload 3 1) := zS_iload_n (i := 3) (by decide +kernel) rfl rfl
theorem zr_62_1 : zSnd 62 1 (o_istore 4 3) := zS_istore (by decide +kernel) rfl (by decide +kernel)
theorem zr_62_3 : zSnd 62 3 (o_iload 2 4) := zS_iload_n (i := 2) (by decide +kernel) rfl rfl
theorem zr_62_4 : zSnd 62 4 (o_ifle 32 7) := zS_ifle (by decide +kernel : decode (zmB 62) 4 = .ok (.ifCond .le 28, 3)) rfl (by decide)
theorem zr_62_7 : zSnd 62 7 (o_aload 0 8) := zS_aload_n (i := 0) (by decide +kernel) rfl rfl
theorem zr_62_8 : zSnd 62 8 (o_iload 1 9) := zS_iload_n (i := 1) (by decide +kernel) rfl rfl
theorem zr_62_9 : zSnd 62 9 (o_iload 2 10) := zS_iload_n (i := 2) (by decide +kernel) rfl rfl
theorem zr_62_10 : zSnd 62 10 (o_const 1 11) := zS_iconst (by decide +kernel) rfl (by decide)
theorem zr_62_11 : zSnd 62 11 (o_isub 12) := zS_isub (by decide +kernel) rfl
theorem zr_62_12 : zSnd 62 12 (o_const 3 13) := zS_iconst (by decide +kernel) rfl (by decide)
theorem zr_62_13 : zSnd 62 13 (o_callv 6 60 4 4 1 16) := zS_callV (n := 3) (idx := 82) (by decide +kernel) rfl rfl (by decide) rfl zq_226 zq_227 zq_228 (by decide +kernel) zMk_60 (by decide +kernel) (by decide +kernel) (by decide +kernel)
theorem zr_62_16 : zSnd 62 16 (o_iload 4 18) := zS_iload (by decide +kernel) rfl
theorem zr_62_18 : zSnd 62 18 (o_cle 32 21) := zS_cle (by decide +kernel : decode (zmB 62) 18 = .ok (.if_icmp .le 14, 3)) rfl (by decide)
theorem zr_62_21 : zSnd 62 21 (o_aload 0 22) := zS_aload_n (i := 0) (by decide +kernel) rfl rfl
theorem zr_62_22 : zSnd 62 22 (o_iload 1 23) := zS_iload_n (i := 1) (by decide +kernel) rfl rfl
theorem zr_62_23 : zSnd 62 23 (o_iload 2 24) := zS_iload_n (i := 2) (by decide +kernel) rfl rfl
theorem zr_62_24 : zSnd 62 24 (o_const 1 25) := zS_iconst (by decide +kernel) rfl (by decide)
theorem zr_62_25 : zSnd 62 25 (o_isub 26) := zS_isub (by decide +kernel) rfl
theorem zr_62_26 : zSnd 62 26 (o_const 3 27) := zS_iconst (by decide +kernel) rfl (by decide)
theorem zr_62_27 : zSnd 62 27 (o_callv 6 60 4 4 1 30) := zS_callV (n := 3) (idx := 82) (by decide +kernel) rfl rfl (by decide) rfl zq_226 zq_227 zq_228 (by decide +kernel) zMk_60 (by decide +kernel) (by decide +kernel) (by decide +kernel)
theorem zr_62_30 : zSnd 62 30 (o_istore 4 32) := zS_istore (by decide +kernel) rfl (by decide +kernel)
theorem zr_62_32 : zSnd 62 32 (o_const 0 33) := zS_iconst (by decide +kernel) rfl (by decide)
theorem zr_62_33 : zSnd 62 33 (o_istore 5 35) := zS_istore (by decide +kernel) rfl (by decide +kernel)
theorem zr_62_35 : zSnd 62 35 (o_iload 5 37) := zS_iload (by decide +kernel) rfl
theorem zr_62_37 : zSnd 62 37 (o_aload 0 38) := zS_aload_n (i := 0) (by decide +kernel) rfl rfl
theorem zr_62_38 : zSnd 62 38 (o_getf 6 1 41) := zS_getf (idx := 7) (by decide +kernel) rfl (by decide) rfl (by decide) rfl zin_6 zq_180
theorem zr_62_41 : zSnd 62 41 (o_const 1 42) := zS_iconst (by decide +kernel) rfl (by decide)
theorem zr_62_42 : zSnd 62 42 (o_iald 43) := zS_iald (by decide +kernel) rfl
theorem zr_62_43 : zSnd 62 43 (o_cge 147 46) := zS_cge (by decide +kernel : decode (zmB 62) 43 = .ok (.if_icmp .ge 104, 3)) rfl (by decide)
theorem zr_62_46 : zSnd 62 46 (o_const 0 47) := zS_iconst (by decide +kernel) rfl (by decide)
theorem zr_62_47 : zSnd 62 47 (o_istore 6 49) := zS_istore (by decide +kernel) rfl (by decide +kernel)
theorem zr_62_49 : zSnd 62 49 (o_iload 6 51) := zS_iload (by decide +kernel) rfl
theorem zr_62_51 : zSnd 62 51 (o_aload 0 52) := zS_aload_n (i := 0) (by decide +kernel) rfl rfl
theorem zr_62_52 : zSnd 62 52 (o_iload 5 54) := zS_iload (by decide +kernel) rfl
theorem zr_62_54 : zSnd 62 54 (o_const 2 55) := zS_iconst (by decide +kernel) rfl (by decide)
theorem zr_62_55 : zSnd 62 55 (o_callv 6 42 3 3 1 58) := zS_callV (n := 2) (idx := 45) (by decide +kernel) rfl rfl (by decide) rfl zq_190 zq_191 zq_192 (by decide +kernel) zMk_42 (by decide +kernel) (by decide +kernel) (by decide +kernel)
theorem zr_62_58 : zSnd 62 58 (o_cge 141 61) := zS_cge (by decide +kernel : decode (zmB 62) 58 = .ok (.if_icmp .ge 83, 3)) rfl (by decide)
theorem zr_62_61 : zSnd 62 61 (o_aload 0 62) := zS_aload_n (i := 0) (by decide +kernel) rfl rfl
theorem zr_62_62 : zSnd 62 62 (o_iload 5 64) := zS_iload (by decide +kernel) rfl
theorem zr_62_64 : zSnd 62 64 (o_iload 6 66) := zS_iload (by decide +kernel) rfl
theorem zr_62_66 : zSnd 62 66 (o_const 0 67) := zS_iconst (by decide +kernel) rfl (by decide)
theorem zr_62_67 : zSnd 62 67 (o_callv 6 44 4 4 1 70) := zS_callV (n := 3) (idx := 73) (by decide +kernel) rfl rfl (by decide) rfl zq_217 zq_218 zq_219 (by decide +kernel) zMk_44 (by decide +kernel) (by decide +kernel) (by decide +kernel)
theorem zr_62_70 : zSnd 62 70 (o_aload 0 71) := zS_aload_n (i := 0) (by decide +kernel) rfl rfl
theorem zr_62_71 : zSnd 62 71 (o_iload 1 72) := zS_iload_n (i := 1) (by decide +kernel) rfl rfl
theorem zr_62_72 : zSnd 62 72 (o_iload 2 73) := zS_iload_n (i := 2) (by decide +kernel) rfl rfl
theorem zr_62_73 : zSnd 62 73 (o_const 0 74) := zS_iconst (by decide +kernel) rfl (by decide)
theorem zr_62_74 : zSnd 62 74 (o_callv 6 44 4 4 1 77) := zS_callV (n := 3) (idx := 73) (by decide +kernel) rfl rfl (by decide) rfl zq_217 zq_218 zq_219 (by decide +kernel) zMk_44 (by decide +kernel) (by decide +kernel) (by decide +kernel)
theorem zr_62_77 : zSnd 62 77 (o_cne 97 80) := zS_cne (by decide +kernel : decode (zmB 62) 77 = .ok (.if_icmp .ne 20, 3)) rfl (by decide)
theorem zr_62_80 : zSnd 62 80 (o_aload 0 81) := zS_aload_n (i := 0) (by decide +kernel) rfl rfl
theorem zr_62_81 : zSnd 62 81 (o_iload 5 83) := zS_iload (by decide +kernel) rfl
theorem zr_62_83 : zSnd 62 83 (o_iload 6 85) := zS_iload (by decide +kernel) rfl
theorem zr_62_85 : zSnd 62 85 (o_const 3 86) := zS_iconst (by decide +kernel) rfl (by decide)
theorem zr_62_86 : zSnd 62 86 (o_callv 6 44 4 4 1 89) := zS_callV (n := 3) (idx := 73) (by decide +kernel) rfl rfl (by decide) rfl zq_217 zq_218 zq_219 (by decide +kernel) zMk_44 (by decide +kernel) (by decide +kernel) (by decide +kernel)
theorem zr_62_89 : zSnd 62 89 (o_const (-1) 90) := zS_iconst (by decide +kernel) rfl (by decide)
theorem zr_62_90 : zSnd 62 90 (o_ceq 97 93) := zS_ceq (by decide +kernel : decode (zmB 62) 90 = .ok (.if_icmp .eq 7, 3)) rfl (by decide)
theorem zr_62_93 : zSnd 62 93 (o_const 1 94) := zS_iconst (by decide +kernel) rfl (by decide)
theorem zr_62_94 : zSnd 62 94 (o_goto 98) := zS_goto (by decide +kernel : decode (zmB 62) 94 = .ok (.goto 4, 3)) (by decide)
theorem zr_62_97 : zSnd 62 97 (o_const 0 98) := zS_iconst (by decide +kernel) rfl (by decide)
theorem zr_62_98 : zSnd 62 98 (o_istore 7 100) := zS_istore (by decide +kernel) rfl (by decide +kernel)
theorem zr_62_100 : zSnd 62 100 (o_iload 7 102) := zS_iload (by decide +kernel) rfl
theorem zr_62_102 : zSnd 62 102 (o_ifeq 131 105) := zS_ifeq (by decide +kernel : decode (zmB 62) 102 = .ok (.ifCond .eq 29, 3)) rfl (by decide)
theorem zr_62_105 : zSnd 62 105 (o_aload 0 106) := zS_aload_n (i := 0) (by decide +kernel) rfl rfl
theorem zr_62_106 : zSnd 62 106 (o_iload 5 108) := zS_iload (by decide +kernel) rfl
theorem zr_62_108 : zSnd 62 108 (o_iload 6 110) := zS_iload (by decide +kernel) rfl
theorem zr_62_110 : zSnd 62 110 (o_const 3 111) := zS_iconst (by decide +kernel) rfl (by decide)
theorem zr_62_111 : zSnd 62 111 (o_callv 6 60 4 4 1 114) := zS_callV (n := 3) (idx := 82) (by decide +kernel) rfl rfl (by decide) rfl zq_226 zq_227 zq_228 (by decide +kernel) zMk_60 (by decide +kernel) (by decide +kernel) (by decide +kernel)
theorem zr_62_114 : zSnd 62 114 (o_iload 4 116) := zS_iload (by decide +kernel) rfl
theorem zr_62_116 : zSnd 62 116 (o_cle 131 119) := zS_cle (by decide +kernel : decode (zmB 62) 116 = .ok (.if_icmp .le 15, 3)) rfl (by decide)
theorem zr_62_119 : zSnd 62 119 (o_aload 0 120) := zS_aload_n (i := 0) (by decide +kernel) rfl rfl
theorem zr_62_120 : zSnd 62 120 (o_iload 5 122) := zS_iload (by decide +kernel) rfl
theorem zr_62_122 : zSnd 62 122 (o_iload 6 124) := zS_iload (by decide +kernel) rfl
theorem zr_62_124 : zSnd 62 124 (o_const 3 125) := zS_iconst (by decide +kernel) rfl (by decide)
theorem zr_62_125 : zSnd 62 125 (o_callv 6 60 4 4 1 128) := zS_callV (n := 3) (idx := 82) (by decide +kernel) rfl rfl (by decide) rfl zq_226 zq_227 zq_228 (by decide +kernel) zMk_60 (by decide +kernel) (by decide +kernel) (by decide +kernel)
theorem zr_62_128 : zSnd 62 128 (o_goto 133) := zS_goto (by decide +kernel : decode (zmB 62) 128 = .ok (.goto 5, 3)) (by decide)
theorem zr_62_131 : zSnd 62 131 (o_iload 4 133) := zS_iload (by decide +kernel) rfl
theorem zr_62_133 : zSnd 62 133 (o_istore 4 135) := zS_istore (by decide +kernel) rfl (by decide +kernel)
theorem zr_62_135 : zSnd 62 135 (o_iinc 6 1 138) := zS_iinc (by decide +kernel) rfl (by decide +kernel)
theorem zr_62_138 : zSnd 62 138 (o_goto 49) := zS_goto (by decide +kernel : decode (zmB 62) 138 = .ok (.goto (-89), 3)) (by decide)
theorem zr_62_141 : zSnd 62 141 (o_iinc 5 1 144) := zS_iinc (by decide +kernel) rfl (by decide +kernel)
theorem zr_62_144 : zSnd 62 144 (o_goto 35) := zS_goto (by decide +kernel : decode (zmB 62) 144 = .ok (.goto (-109), 3)) (by decide)
theorem zr_62_147 : zSnd 62 147 (o_aload 0 148) := zS_aload_n (i := 0) (by decide +kernel) rfl rfl
theorem zr_62_148 : zSnd 62 148 (o_iload 1 149) := zS_iload_n (i := 1) (by decide +kernel) rfl rfl
theorem zr_62_149 : zSnd 62 149 (o_iload 2 150) := zS_iload_n (i := 2) (by decide +kernel) rfl rfl
theorem zr_62_150 : zSnd 62 150 (o_iload 4 152) := zS_iload (by decide +kernel) rfl
theorem zr_62_152 : zSnd 62 152 (o_callv 6 59 4 6 1 155) := zS_callV (n := 3) (idx := 85) (by decide +kernel) rfl rfl (by decide) rfl zq_229 zq_230 zq_231 (by decide +kernel) zMk_59 (by decide +kernel) (by decide +kernel) (by decide +kernel)
theorem zr_62_155 : zSnd 62 155 (o_iret) := zS_iret (by decide +kernel) (by decide +kernel)
theorem zT_62 (pc : Nat) : zSnd 62 pc (zc_62 pc) := by
  unfold zc_62
  exact (zSn_nd (zSn_nd (zSn_nd (zSn_nd (zSn_nd (zSn_nd (zSn_lf zr_62_0) (zSn_lf zr_62_1)) (zSn_nd (zSn_lf zr_62_3) (zSn_nd (zSn_lf zr_62_4) (zSn_lf zr_62_7)))) (zSn_nd (zSn_nd (zSn_lf zr_62_8) (zSn_lf zr_62_9)) (zSn_nd (zSn_lf zr_62_10) (zSn_nd (zSn_lf zr_62_11) (zSn_lf zr_62_12))))) (zSn_nd (zSn_nd (zSn_nd (zSn_lf zr_62_13) (zSn_lf zr_62_16)) (zSn_nd (zSn_lf zr_62_18) (zSn_nd (zSn_lf zr_62_21) (zSn_lf zr_62_22)))) (zSn_nd (zSn_nd (zSn_lf zr_62_23) (zSn_nd (zSn_lf zr_62_24) (zSn_lf zr_62_25))) (zSn_nd (zSn_lf zr_62_26) (zSn_nd (zSn_lf zr_62_27) (zSn_lf zr_62_30)))))) (zSn_nd (zSn_nd (zSn_nd (zSn_nd (zSn_lf zr_62_32) (zSn_lf zr_62_33)) (zSn_nd (zSn_lf zr_62_35) (zSn_nd (zSn_lf zr_62_37) (zSn_lf zr_62_38)))) (zSn_nd (zSn_nd (zSn_lf zr_62_41) (zSn_nd (zSn_lf zr_62_42) (zSn_lf zr_62_43))) (zSn_nd (zSn_lf zr_62_46) (zSn_nd (zSn_lf zr_62_47) (zSn_lf zr_62_49))))) (zSn_nd (zSn_nd (zSn_nd (zSn_lf zr_62_51) (zSn_lf zr_62_52)) (zSn_nd (zSn_lf zr_62_54) (zSn_nd (zSn_lf zr_62_55) (zSn_lf zr_62_58)))) (zSn_nd (zSn_nd (zSn_lf zr_62_61) (zSn_nd (zSn_lf zr_62_62) (zSn_lf zr_62_64))) (zSn_nd (zSn_lf zr_62_66) (zSn_nd (zSn_lf zr_62_67) (zSn_lf zr_62_70))))))) (zSn_nd (zSn_nd (zSn_nd (zSn_nd (zSn_nd (zSn_lf zr_62_71) (zSn_lf zr_62_72)) (zSn_nd (zSn_lf zr_62_73) (zSn_nd (zSn_lf zr_62_74) (zSn_lf zr_62_77)))) (zSn_nd (zSn_nd (zSn_lf zr_62_80) (zSn_lf zr_62_81)) (zSn_nd (zSn_lf zr_62_83) (zSn_nd (zSn_lf zr_62_85) (zSn_lf zr_62_86))))) (zSn_nd (zSn_nd (zSn_nd (zSn_lf zr_62_89) (zSn_lf zr_62_90)) (zSn_nd (zSn_lf zr_62_93) (zSn_nd (zSn_lf zr_62_94) (zSn_lf zr_62_97)))) (zSn_nd (zSn_nd (zSn_lf zr_62_98) (zSn_nd (zSn_lf zr_62_100) (zSn_lf zr_62_102))) (zSn_nd (zSn_lf zr_62_105) (zSn_nd (zSn_lf zr_62_106) (zSn_lf zr_62_108)))))) (zSn_nd (zSn_nd (zSn_nd (zSn_nd (zSn_lf zr_62_110) (zSn_lf zr_62_111)) (zSn_nd (zSn_lf zr_62_114) (zSn_nd (zSn_lf zr_62_116) (zSn_lf zr_62_119)))) (zSn_nd (zSn_nd (zSn_lf zr_62_120) (zSn_nd (zSn_lf zr_62_122) (zSn_lf zr_62_124))) (zSn_nd (zSn_lf zr_62_125) (zSn_nd (zSn_lf zr_62_128) (zSn_lf zr_62_131))))) (zSn_nd (zSn_nd (zSn_nd (zSn_lf zr_62_133) (zSn_lf zr_62_135)) (zSn_nd (zSn_lf zr_62_138) (zSn_nd (zSn_lf zr_62_141) (zSn_lf zr_62_144)))) (zSn_nd (zSn_nd (zSn_lf zr_62_147) (zSn_nd (zSn_lf zr_62_148) (zSn_lf zr_62_149))) (zSn_nd (zSn_lf zr_62_150) (zSn_nd (zSn_lf zr_62_152) (zSn_lf zr_62_155))))))))
theorem zr_63_0 : zSnd 63 0 (o_iload 3 1) := zS_iload_n (i := 3) (by decide +kernel) rfl rfl
theorem zr_63_1 : zSnd 63 1 (o_sw [(0, 28), (1, 36), (2, 43)] 51) := zS_tsw (n := 3) (by decide +kernel : decode (zmB 63) 1 = .ok (.tableswitch 50 0 2 #[27, 35, 42], 27)) (by decide) (by decide +kernel) (by intro x hx; simp only [zsw]; (repeat' split) <;> omega) (by decide)
theorem zr_63_28 : zSnd 63 28 (o_aload 0 29) := zS_aload_n (i := 0) (by decide +kernel) rfl rfl
theorem zr_63_29 : zSnd 63 29 (o_iload 1 30) := zS_iload_n (i := 1) (by decide +kernel) rfl rfl
theorem zr_63_30 : zSnd 63 30 (o_iload 2 31) := zS_iload_n (i := 2) (by decide +kernel) rfl rfl
theorem zr_63_31 : zSnd 63 31 (o_const 1 32) := zS_iconst (by decide +kernel) rfl (by decide)
theorem zr_63_32 : zSnd 63 32 (o_callv 6 44 4 4 1 35) := zS_callV (n := 3) (idx := 73) (by decide +kernel) rfl rfl (by decide) rfl zq_217 zq_218 zq_219 (by decide +kernel) zMk_44 (by decide +kernel) (by decide +kernel) (by decide +kernel)
theorem zr_63_35 : zSnd 63 35 (o_iret) := zS_iret (by decide +kernel) (by decide +kernel)
theorem zr_63_36 : zSnd 63 36 (o_aload 0 37) := zS_aload_n (i := 0) (by decide +kernel) rfl rfl
theorem zr_63_37 : zSnd 63 37 (o_iload 1 38) := zS_iload_n (i := 1) (by decide +kernel) rfl rfl
theorem zr_63_38 : zSnd 63 38 (o_const 1 39) := zS_iconst (by decide +kernel) rfl (by decide)
theorem zr_63_39 : zSnd 63 39 (o_callv 6 42 3 3 1 42) := zS_callV (n := 2) (idx := 45) (by decide +kernel) rfl rfl (by decide) rfl zq_190 zq_191 zq_192 (by decide +kernel) zMk_42 (by decide +kernel) (by decide +kernel) (by decide +kernel)
theorem zr_63_42 : zSnd 63 42 (o_iret) := zS_iret (by decide +kernel) (by decide +kernel)
theorem zr_63_43 : zSnd 63 43 (o_aload 0 44) := zS_aload_n (i := 0) (by decide +kernel) rfl rfl
theorem zr_63_44 : zSnd 63 44 (o_iload 1 45) := zS_iload_n (i := 1) (by decide +kernel) rfl rfl
theorem zr_63_45 : zSnd 63 45 (o_const 0 46) := zS_iconst (by decide +kernel) rfl (by decide)
theorem zr_63_46 : zSnd 63 46 (o_callv 6 42 3 3 1 49) := zS_callV (n := 2) (idx := 45) (by decide +kernel) rfl rfl (by decide) rfl zq_190 zq_191 zq_192 (by decide +kernel) zMk_42 (by decide +kernel) (by decide +kernel) (by decide +kernel)
theorem zr_63_49 : zSnd 63 49 (o_ineg 50) := zS_ineg (by decide +kernel) rfl
theorem zr_63_50 : zSnd 63 50 (o_iret) := zS_iret (by decide +kernel) (by decide +kernel)
theorem zr_63_51 : zSnd 63 51 (o_aload 0 52) := zS_aload_n (i := 0) (by decide +kernel) rfl rfl
theorem zr_63_52 : zSnd 63 52 (o_iload 1 53) := zS_iload_n (i := 1) (by decide +kernel) rfl rfl
theorem zr_63_53 : zSnd 63 53 (o_const 2 54) := zS_iconst (by decide +kernel) rfl (by decide)
theorem zr_63_54 : zSnd 63 54 (o_callv 6 42 3 3 1 57) := zS_callV (n := 2) (idx := 45) (by decide +kernel) rfl rfl (by decide) rfl zq_190 zq_191 zq_192 (by decide +kernel) zMk_42 (by decide +kernel) (by decide +kernel) (by decide +kernel)
theorem zr_63_57 : zSnd 63 57 (o_iload 2 58) := zS_iload_n (i := 2) (by decide +kernel) rfl rfl
theorem zr_63_58 : zSnd 63 58 (o_isub 59) := zS_isub (by decide +kernel) rfl
theorem zr_63_59 : zSnd 63 59 (o_iret) := zS_iret (by decide +kernel) (by decide +kernel)
theorem zT_63 (pc : Nat) : zSnd 63 pc (zc_63 pc) := by
  unfold zc_63
  exact (zSn_nd (zSn_nd (zSn_nd (zSn_nd (zSn_lf zr_63_0) (zSn_nd (zSn_lf zr_63_1) (zSn_lf zr_63_28))) (zSn_nd (zSn_lf zr_63_29) (zSn_nd (zSn_lf zr_63_30) (zSn_lf zr_63_31)))) (zSn_nd (zSn_nd (zSn_lf zr_63_32) (zSn_nd (zSn_lf zr_63_35) (zSn_lf zr_63_36))) (zSn_nd (zSn_nd (zSn_lf zr_63_37) (zSn_lf zr_63_38)) (zSn_nd (zSn_lf zr_63_39) (zSn_lf zr_63_42))))) (zSn_nd (zSn_nd (zSn_nd (zSn_lf zr_63_43) (zSn_nd (zSn_lf zr_63_44) (zSn_lf zr_63_45))) (zSn_nd (zSn_lf zr_63_46) (zSn_nd (zSn_lf zr_63_49) (zSn_lf zr_63_50)))) (zSn_nd (zSn_nd (zSn_lf zr_63_51) (zSn_nd (zSn_lf zr_63_52) (zSn_lf zr_63_53))) (zSn_nd (zSn_nd (zSn_lf zr_63_54) (zSn_lf zr_63_57)) (zSn_nd (zSn_lf zr_63_58) (zSn_lf zr_63_59))))))
theorem zr_64_0 : zSnd 64 0 (o_const 0 1) := zS_iconst (by decide +kernel) rfl (by decide)
theorem zr_64_1 : zSnd 64 1 (o_istore 3 2) := zS_istore_n (i := 3) (by decide +kernel) rfl rfl (by decide +kernel)
theorem zr_64_2 : zSnd 64 2 (o_iload 3 3) := zS_iload_n (i := 3) (by decide +kernel) rfl rfl
theorem zr_64_3 : zSnd 64 3 (o_const (-1) 4) := zS_iconst (by decide +kernel) rfl (by decide)
theorem zr_64_4 : zSnd 64 4 (o_ceq 176 7) := zS_ceq (by decide +kernel : decode (zmB 64) 4 = .ok (.if_icmp .eq 172, 3)) rfl (by decide)
theorem zr_64_7 : zSnd 64 7 (o_const (-1) 8) := zS_iconst (by decide +kernel) rfl (by decide)
theorem zr_64_8 : zSnd 64 8 (o_istore 3 9) := zS_istore_n (i := 3) (by decide +kernel) rfl rfl (by decide +kernel)
theorem zr_64_9 : zSnd 64 9 (o_const 0 10) := zS_iconst (by decide +kernel) rfl (by decide)
theorem zr_64_10 : zSnd 64 10 (o_istore 4 12) := zS_istore (by decide +kernel) rfl (by decide +kernel)
theorem zr_64_12 : zSnd 64 12 (o_const 0 13) := zS_iconst (by decide +kernel) rfl (by decide)
theorem zr_64_13 : zSnd 64 13 (o_istore 5 15) := zS_istore (by decide +kernel) rfl (by decide +kernel)
theorem zr_64_15 : zSnd 64 15 (o_const 0 16) := zS_iconst (by decide +kernel) rfl (by decide)
theorem zr_64_16 : zSnd 64 16 (o_istore 6 18) := zS_istore (by decide +kernel) rfl (by decide +kernel)
theorem zr_64_18 : zSnd 64 18 (o_iload 6 20) := zS_iload (by decide +kernel) rfl
theorem zr_64_20 : zSnd 64 20 (o_aload 0 21) := zS_aload_n (i := 0) (by decide +kernel) rfl rfl
theorem zr_64_21 : zSnd 64 21 (o_getf 6 1 24) := zS_getf (idx := 7) (by decide +kernel) rfl (by decide) rfl (by decide) rfl zin_6 zq_180
theorem zr_64_24 : zSnd 64 24 (o_const 1 25) := zS_iconst (by decide +kernel) rfl (by decide)
theorem zr_64_25 : zSnd 64 25 (o_iald 26) := zS_iald (by decide +kernel) rfl
theorem zr_64_26 : zSnd 64 26 (o_cge 150 29) := zS_cge (by decide +kernel : decode (zmB 64) 26 = .ok (.if_icmp .ge 124, 3)) rfl (by decide)
theorem zr_64_29 : zSnd 64 29 (o_aload 0 30) := zS_aload_n (i := 0) (by decide +kernel) rfl rfl
theorem zr_64_30 : zSnd 64 30 (o_iload 6 32) := zS_iload (by decide +kernel) rfl
theorem zr_64_32 : zSnd 64 32 (o_callv 6 61 2 3 1 35) := zS_callV (n := 1) (idx := 88) (by decide +kernel) rfl rfl (by decide) rfl zq_232 zq_233 zq_234 (by decide +kernel) zMk_61 (by decide +kernel) (by decide +kernel) (by decide +kernel)
theorem zr_64_35 : zSnd 64 35 (o_istore 7 37) := zS_istore (by decide +kernel) rfl (by decide +kernel)
theorem zr_64_37 : zSnd 64 37 (o_iload 7 39) := zS_iload (by decide +kernel) rfl
theorem zr_64_39 : zSnd 64 39 (o_aload 0 40) := zS_aload_n (i := 0) (by decide +kernel) rfl rfl
theorem zr_64_40 : zSnd 64 40 (o_iload 6 42) := zS_iload (by decide +kernel) rfl
theorem zr_64_42 : zSnd 64 42 (o_const 2 43) := zS_iconst (by decide +kernel) rfl (by decide)
theorem zr_64_43 : zSnd 64 43 (o_callv 6 42 3 3 1 46) := zS_callV (n := 2) (idx := 45) (by decide +kernel) rfl rfl (by decide) rfl zq_190 zq_191 zq_192 (by decide +kernel) zMk_42 (by decide +kernel) (by decide +kernel) (by decide +kernel)
theorem zr_64_46 : zSnd 64 46 (o_cge 144 49) := zS_cge (by decide +kernel : decode (zmB 64) 46 = .ok (.if_icmp .ge 98, 3)) rfl (by decide)
theorem zr_64_49 : zSnd 64 49 (o_aload 0 50) := zS_aload_n (i := 0) (by decide +kernel) rfl rfl
theorem zr_64_50 : zSnd 64 50 (o_iload 6 52) := zS_iload (by decide +kernel) rfl
theorem zr_64_52 : zSnd 64 52 (o_iload 7 54) := zS_iload (by decide +kernel) rfl
theorem zr_64_54 : zSnd 64 54 (o_iload 2 55) := zS_iload_n (i := 2) (by decide +kernel) rfl rfl
theorem zr_64_55 : zSnd 64 55 (o_callv 6 62 4 8 1 58) := zS_callV (n := 3) (idx := 92) (by decide +kernel) rfl rfl (by decide) rfl zq_235 zq_236 zq_237 (by decide +kernel) zMk_62 (by decide +kernel) (by decide +kernel) (by decide +kernel)
theorem zr_64_58 : zSnd 64 58 (o_istore 8 60) := zS_istore (by decide +kernel) rfl (by decide +kernel)
theorem zr_64_60 : zSnd 64 60 (o_aload 0 61) := zS_aload_n (i := 0) (by decide +kernel) rfl rfl
theorem zr_64_61 : zSnd 64 61 (o_iload 6 63) := zS_iload (by decide +kernel) rfl
theorem zr_64_63 : zSnd 64 63 (o_iload 7 65) := zS_iload (by decide +kernel) rfl
theorem zr_64_65 : zSnd 64 65 (o_iload 1 66) := zS_iload_n (i := 1) (by decide +kernel) rfl rfl
theorem zr_64_66 : zSnd 64 66 (o_callv 6 63 4 4 1 69) := zS_callV (n := 3) (idx := 95) (by decide +kernel) rfl rfl (by decide) rfl zq_238 zq_239 zq_240 (by decide +kernel) zMk_63 (by decide +kernel) (by decide +kernel) (by decide +kernel)
theorem zr_64_69 : zSnd 64 69 (o_istore 9 71) := zS_istore (by decide +kernel) rfl (by decide +kernel)
theorem zr_64_71 : zSnd 64 71 (o_iload 3 72) := zS_iload_n (i := 3) (by decide +kernel) rfl rfl
theorem zr_64_72 : zSnd 64 72 (o_const (-1) 73) := zS_iconst (by decide +kernel) rfl (by decide)
theorem zr_64_73 : zSnd 64 73 (o_ceq 97 76) := zS_ceq (by decide +kernel : decode (zmB 64) 73 = .ok (.if_icmp .eq 24, 3)) rfl (by decide)
theorem zr_64_76 : zSnd 64 76 (o_iload 8 78) := zS_iload (by decide +kernel) rfl
theorem zr_64_78 : zSnd 64 78 (o_iload 4 80) := zS_iload (by decide +kernel) rfl
theorem zr_64_80 : zSnd 64 80 (o_clt 97 83) := zS_clt (by decide +kernel : decode (zmB 64) 80 = .ok (.if_icmp .lt 17, 3)) rfl (by decide)
theorem zr_64_83 : zSnd 64 83 (o_iload 8 85) := zS_iload (by decide +kernel) rfl
theorem zr_64_85 : zSnd 64 85 (o_iload 4 87) := zS_iload (by decide +kernel) rfl
theorem zr_64_87 : zSnd 64 87 (o_cne 101 90) := zS_cne (by decide +kernel : decode (zmB 64) 87 = .ok (.if_icmp .ne 14, 3)) rfl (by decide)
theorem zr_64_90 : zSnd 64 90 (o_iload 9 92) := zS_iload (by decide +kernel) rfl
theorem zr_64_92 : zSnd 64 92 (o_iload 5 94) := zS_iload (by decide +kernel) rfl
theorem zr_64_94 : zSnd 64 94 (o_cge 101 97) := zS_cge (by decide +kernel : decode (zmB 64) 94 = .ok (.if_icmp .ge 7, 3)) rfl (by decide)
theorem zr_64_97 : zSnd 64 97 (o_const 1 98) := zS_iconst (by decide +kernel) rfl (by decide)
theorem zr_64_98 : zSnd 64 98 (o_goto 102) := zS_goto (by decide +kernel : decode (zmB 64) 98 = .ok (.goto 4, 3)) (by decide)
theorem zr_64_101 : zSnd 64 101 (o_const 0 102) := zS_iconst (by decide +kernel) rfl (by decide)
theorem zr_64_102 : zSnd 64 102 (o_istore 10 104) := zS_istore (by decide +kernel) rfl (by decide +kernel)
theorem zr_64_104 : zSnd 64 104 (o_iload 10 106) := zS_iload (by decide +kernel) rfl
theorem zr_64_106 : zSnd 64 106 (o_ifeq 114 109) := zS_ifeq (by decide +kernel : decode (zmB 64) 106 = .ok (.ifCond .eq 8, 3)) rfl (by decide)
theorem zr_64_109 : zSnd 64 109 (o_iload 6 111) := zS_iload (by decide +kernel) rfl
theorem zr_64_111 : zSnd 64 111 (o_goto 115) := zS_goto (by decide +kernel : decode (zmB 64) 111 = .ok (.goto 4, 3)) (by decide)
theorem zr_64_114 : zSnd 64 114 (o_iload 3 115) := zS_iload_n (i := 3) (by decide +kernel) rfl rfl
theorem zr_64_115 : zSnd 64 115 (o_istore 3 116) := zS_istore_n (i := 3) (by decide +kernel) rfl rfl (by decide +kernel)
theorem zr_64_116 : zSnd 64 116 (o_iload 10 118) := zS_iload (by decide +kernel) rfl
theorem zr_64_118 : zSnd 64 118 (o_ifeq 126 121) := zS_ifeq (by decide +kernel : decode (zmB 64) 118 = .ok (.ifCond .eq 8, 3)) rfl (by decide)
theorem zr_64_121 : zSnd 64 121 (o_iload 8 123) := zS_iload (by decide +kernel) rfl
theorem zr_64_123 : zSnd 64 123 (o_goto 128) := zS_goto (by decide +kernel : decode (zmB 64) 123 = .ok (.goto 5, 3)) (by decide)
theorem zr_64_126 : zSnd 64 126 (o_iload 4 128) := zS_iload (by decide +kernel) rfl
theorem zr_64_128 : zSnd 64 128 (o_istore 4 130) := zS_istore (by decide +kernel) rfl (by decide +kernel)
theorem zr_64_130 : zSnd 64 130 (o_iload 10 132) := zS_iload (by decide +kernel) rfl
theorem zr_64_132 : zSnd 64 132 (o_ifeq 140 135) := zS_ifeq (by decide +kernel : decode (zmB 64) 132 = .ok (.ifCond .eq 8, 3)) rfl (by decide)
theorem zr_64_135 : zSnd 64 135 (o_iload 9 137) := zS_iload (by decide +kernel) rfl
theorem zr_64_137 : zSnd 64 137 (o_goto 142) := zS_goto (by decide +kernel : decode (zmB 64) 137 = .ok (.goto 5, 3)) (by decide)
theorem zr_64_140 : zSnd 64 140 (o_iload 5 142) := zS_iload (by decide +kernel) rfl
theorem zr_64_142 : zSnd 64 142 (o_istore 5 144) := zS_istore (by decide +kernel) rfl (by decide +kernel)
theorem zr_64_144 : zSnd 64 144 (o_iinc 6 1 147) := zS_iinc (by decide +kernel) rfl (by decide +kernel)
theorem zr_64_147 : zSnd 64 147 (o_goto 18) := zS_goto (by decide +kernel : decode (zmB 64) 147 = .ok (.goto (-129), 3)) (by decide)
theorem zr_64_150 : zSnd 64 150 (o_iload 3 151) := zS_iload_n (i := 3) (by decide +kernel) rfl rfl
theorem zr_64_151 : zSnd 64 151 (o_const (-1) 152) := zS_iconst (by decide +kernel) rfl (by decide)
theorem zr_64_152 : zSnd 64 152 (o_ceq 173 155) := zS_ceq (by decide +kernel : decode (zmB 64) 152 = .ok (.if_icmp .eq 21, 3)) rfl (by decide)
theorem zr_64_155 : zSnd 64 155 (o_aload 0 156) := zS_aload_n (i := 0) (by decide +kernel) rfl rfl
theorem zr_64_156 : zSnd 64 156 (o_getf 6 1 159) := zS_getf (idx := 7) (by decide +kernel) rfl (by decide) rfl (by decide) rfl zin_6 zq_180
theorem zr_64_159 : zSnd 64 159 (o_iload 3 160) := zS_iload_n (i := 3) (by decide +kernel) rfl rfl
theorem zr_64_160 : zSnd 64 160 (o_aload 0 161) := zS_aload_n (i := 0) (by decide +kernel) rfl rfl
theorem zr_64_161 : zSnd 64 161 (o_iload 3 162) := zS_iload_n (i := 3) (by decide +kernel) rfl rfl
theorem zr_64_162 : zSnd 64 162 (o_callv 6 61 2 3 1 165) := zS_callV (n := 1) (idx := 88) (by decide +kernel) rfl rfl (by decide) rfl zq_232 zq_233 zq_234 (by decide +kernel) zMk_61 (by decide +kernel) (by decide +kernel) (by decide +kernel)
theorem zr_64_165 : zSnd 64 165 (o_call 43 2 2 1 168) := zS_callS (idx := 37) (by decide +kernel) rfl zq_185 zq_186 (by decide +kernel) zMk_43 (by decide +kernel) (by decide +kernel) (by decide +kernel)
theorem zr_64_168 : zSnd 64 168 (o_const 3 169) := zS_iconst (by decide +kernel) rfl (by decide)
theorem zr_64_169 : zSnd 64 169 (o_iadd 170) := zS_iadd (by decide +kernel) rfl
theorem zr_64_170 : zSnd 64 170 (o_iload 4 172) := zS_iload (by decide +kernel) rfl
theorem zr_64_172 : zSnd 64 172 (o_iast 173) := zS_iast (by decide +kernel) rfl
theorem zr_64_173 : zSnd 64 173 (o_goto 2) := zS_goto (by decide +kernel : decode (zmB 64) 173 = .ok (.goto (-171), 3)) (by decide)
theorem zr_64_176 : zSnd 64 176 (o_ret) := zS_ret (by decide +kernel) (by decide +kernel)
theorem zT_64 (pc : Nat) : zSnd 64 pc (zc_64 pc) := by
  unfold zc_64
  exact (zSn_nd (zSn_nd (zSn_nd (zSn_nd (zSn_nd (zSn_nd (zSn_lf zr_64_0) (zSn_lf zr_64_1)) (zSn_nd (zSn_lf zr_64_2) (zSn_nd (zSn_lf zr_64_3) (zSn_lf zr_64_4)))) (zSn_nd (zSn_nd (zSn_lf zr_64_7) (zSn_nd (zSn_lf zr_64_8) (zSn_lf zr_64_9))) (zSn_nd (zSn_lf zr_64_10) (zSn_nd (zSn_lf zr_64_12) (zSn_lf zr_64_13))))) (zSn_nd (zSn_nd (zSn_nd (zSn_lf zr_64_15) (zSn_nd (zSn_lf zr_64_16) (zSn_lf zr_64_18))) (zSn_nd (zSn_lf zr_64_20) (zSn_nd (zSn_lf zr_64_21) (zSn_lf zr_64_24)))) (zSn_nd (zSn_nd (zSn_lf zr_64_25) (zSn_nd (zSn_lf zr_64_26) (zSn_lf zr_64_29))) (zSn_nd (zSn_lf zr_64_30) (zSn_nd (zSn_lf zr_64_32) (zSn_lf zr_64_35)))))) (zSn_nd (zSn_nd (zSn_nd (zSn_nd (zSn_lf zr_64_37) (zSn_lf zr_64_39)) (zSn_nd (zSn_lf zr_64_40) (zSn_nd (zSn_lf zr_64_42) (zSn_lf zr_64_43)))) (zSn_nd (zSn_nd (zSn_lf zr_64_46) (zSn_nd (zSn_lf zr_64_49) (zSn_lf zr_64_50))) (zSn_nd (zSn_lf zr_64_52) (zSn_nd (zSn_lf zr_64_54) (zSn_lf zr_64_55))))) (zSn_nd (zSn_nd (zSn_nd (zSn_lf zr_64_58) (zSn_nd (zSn_lf zr_64_60) (zSn_lf zr_64_61))) (zSn_nd (zSn_lf zr_64_63) (zSn_nd (zSn_lf zr_64_65) (zSn_lf zr_64_66)))) (zSn_nd (zSn_nd (zSn_lf zr_64_69) (zSn_nd (zSn_lf zr_64_71) (zSn_lf zr_64_72))) (zSn_nd (zSn_lf zr_64_73) (zSn_nd (zSn_lf zr_64_76) (zSn_lf zr_64_78))))))) (zSn_nd (zSn_nd (zSn_nd (zSn_nd (zSn_nd (zSn_lf zr_64_80) (zSn_lf zr_64_83)) (zSn_nd (zSn_lf zr_64_85) (zSn_nd (zSn_lf zr_64_87) (zSn_lf zr_64_90)))) (zSn_nd (zSn_nd (zSn_lf zr_64_92) (zSn_nd (zSn_lf zr_64_94) (zSn_lf zr_64_97))) (zSn_nd (zSn_lf zr_64_98) (zSn_nd (zSn_lf zr_64_101) (zSn_lf zr_64_102))))) (zSn_nd (zSn_nd (zSn_nd (zSn_lf zr_64_104) (zSn_nd (zSn_lf zr_64_106) (zSn_lf zr_64_109))) (zSn_nd (zSn_lf zr_64_111) (zSn_nd (zSn_lf zr_64_114) (zSn_lf zr_64_115)))) (zSn_nd (zSn_nd (zSn_lf zr_64_116) (zSn_nd (zSn_lf zr_64_118) (zSn_lf zr_64_121))) (zSn_nd (zSn_lf zr_64_123) (zSn_nd (zSn_lf zr_64_126) (zSn_lf zr_64_128)))))) (zSn_nd (zSn_nd (zSn_nd (zSn_nd (zSn_lf zr_64_130) (zSn_nd (zSn_lf zr_64_132) (zSn_lf zr_64_135))) (zSn_nd (zSn_lf zr_64_137) (zSn_nd (zSn_lf zr_64_140) (zSn_lf zr_64_142)))) (zSn_nd (zSn_nd (zSn_lf zr_64_144) (zSn_nd (zSn_lf zr_64_147) (zSn_lf zr_64_150))) (zSn_nd (zSn_lf zr_64_151) (zSn_nd (zSn_lf zr_64_152) (zSn_lf zr_64_155))))) (zSn_nd (zSn_nd (zSn_nd (zSn_lf zr_64_156) (zSn_nd (zSn_lf zr_64_159) (zSn_lf zr_64_160))) (zSn_nd (zSn_lf zr_64_161) (zSn_nd (zSn_lf zr_64_162) (zSn_lf zr_64_165)))) (zSn_nd (zSn_nd (zSn_lf zr_64_168) (zSn_nd (zSn_lf zr_64_169) (zSn_lf zr_64_170))) (zSn_nd (zSn_lf zr_64_172) (zSn_nd (zSn_lf zr_64_173) (zSn_lf zr_64_176))))))))
theorem zr_65_0 : zSnd 65 0 (o_aload 0 1) := zS_aload_n (i := 0) (by decide +kernel) rfl rfl
theorem zr_65_1 : zSnd 65 1 (o_iload 1 2) := zS_iload_n (i := 1) (by decide +kernel) rfl rfl
theorem zr_65_2 : zSnd 65 2 (o_const 2 3) := zS_iconst (by decide +kernel) rfl (by decide)
theorem zr_65_3 : zSnd 65 3 (o_callv 6 42 3 3 1 6) := zS_callV (n := 2) (idx := 45) (by decide +kernel) rfl rfl (by decide) rfl zq_190 zq_191 zq_192 (by decide +kernel) zMk_42 (by decide +kernel) (by decide +kernel) (by decide +kernel)
theorem zr_65_6 : zSnd 65 6 (o_istore 3 7) := zS_istore_n (i := 3) (by decide +kernel) rfl rfl (by decide +kernel)
theorem zr_65_7 : zSnd 65 7 (o_iload 3 8) := zS_iload_n (i := 3) (by decide +kernel) rfl rfl
theorem zr_65_8 : zSnd 65 8 (o_ifne 15 11) := zS_ifne (by decide +kernel : decode (zmB 65) 8 = .ok (.ifCond .ne 7, 3)) rfl (by decide)
theorem zr_65_11 : zSnd 65 11 (o_const 0 12) := zS_iconst (by decide +kernel) rfl (by decide)
theorem zr_65_12 : zSnd 65 12 (o_goto 31) := zS_goto (by decide +kernel : decode (zmB 65) 12 = .ok (.goto 19, 3)) (by decide)
theorem zr_65_15 : zSnd 65 15 (o_aload 0 16) := zS_aload_n (i := 0) (by decide +kernel) rfl rfl
theorem zr_65_16 : zSnd 65 16 (o_iload 1 17) := zS_iload_n (i := 1) (by decide +kernel) rfl rfl
theorem zr_65_17 : zSnd 65 17 (o_iload 3 18) := zS_iload_n (i := 3) (by decide +kernel) rfl rfl
theorem zr_65_18 : zSnd 65 18 (o_const 1 19) := zS_iconst (by decide +kernel) rfl (by decide)
theorem zr_65_19 : zSnd 65 19 (o_isub 20) := zS_isub (by decide +kernel) rfl
theorem zr_65_20 : zSnd 65 20 (o_iload 2 21) := zS_iload_n (i := 2) (by decide +kernel) rfl rfl
theorem zr_65_21 : zSnd 65 21 (o_callv 6 60 4 4 1 24) := zS_callV (n := 3) (idx := 82) (by decide +kernel) rfl rfl (by decide) rfl zq_226 zq_227 zq_228 (by decide +kernel) zMk_60 (by decide +kernel) (by decide +kernel) (by decide +kernel)
theorem zr_65_24 : zSnd 65 24 (o_aload 0 25) := zS_aload_n (i := 0) (by decide +kernel) rfl rfl
theorem zr_65_25 : zSnd 65 25 (o_iload 1 26) := zS_iload_n (i := 1) (by decide +kernel) rfl rfl
theorem zr_65_26 : zSnd 65 26 (o_const 1 27) := zS_iconst (by decide +kernel) rfl (by decide)
theorem zr_65_27 : zSnd 65 27 (o_callv 6 42 3 3 1 30) := zS_callV (n := 2) (idx := 45) (by decide +kernel) rfl rfl (by decide) rfl zq_190 zq_191 zq_192 (by decide +kernel) zMk_42 (by decide +kernel) (by decide +kernel) (by decide +kernel)
theorem zr_65_30 : zSnd 65 30 (o_isub 31) := zS_isub (by decide +kernel) rfl
theorem zr_65_31 : zSnd 65 31 (o_istore 4 33) := zS_istore (by decide +kernel) rfl (by decide +kernel)
theorem zr_65_33 : zSnd 65 33 (o_iload 4 35) := zS_iload (by decide +kernel) rfl
theorem zr_65_35 : zSnd 65 35 (o_ifle 43 38) := zS_ifle (by decide +kernel : decode (zmB 65) 35 = .ok (.ifCond .le 8, 3)) rfl (by decide)
theorem zr_65_38 : zSnd 65 38 (o_iload 4 40) := zS_iload (by decide +kernel) rfl
theorem zr_65_40 : zSnd 65 40 (o_goto 44) := zS_goto (by decide +kernel : decode (zmB 65) 40 = .ok (.goto 4, 3)) (by decide)
theorem zr_65_43 : zSnd 65 43 (o_const 0 44) := zS_iconst (by decide +kernel) rfl (by decide)
theorem zr_65_44 : zSnd 65 44 (o_iret) := zS_iret (by decide +kernel) (by decide +kernel)
theorem zT_65 (pc : Nat) : zSnd 65 pc (zc_65 pc) := by
  unfold zc_65
  exact (zSn_nd (zSn_nd (zSn_nd (zSn_nd (zSn_lf zr_65_0) (zSn_nd (zSn_lf zr_65_1) (zSn_lf zr_65_2))) (zSn_nd (zSn_nd (zSn_lf zr_65_3) (zSn_lf zr_65_6)) (zSn_nd (zSn_lf zr_65_7) (zSn_lf zr_65_8)))) (zSn_nd (zSn_nd (zSn_lf zr_65_11) (zSn_nd (zSn_lf zr_65_12) (zSn_lf zr_65_15))) (zSn_nd (zSn_nd (zSn_lf zr_65_16) (zSn_lf zr_65_17)) (zSn_nd (zSn_lf zr_65_18) (zSn_lf zr_65_19))))) (zSn_nd (zSn_nd (zSn_nd (zSn_lf zr_65_20) (zSn_nd (zSn_lf zr_65_21) (zSn_lf zr_65_24))) (zSn_nd (zSn_nd (zSn_lf zr_65_25) (zSn_lf zr_65_26)) (zSn_nd (zSn_lf zr_65_27) (zSn_lf zr_65_30)))) (zSn_nd (zSn_nd (zSn_lf zr_65_31) (zSn_nd (zSn_lf zr_65_33) (zSn_lf zr_65_35))) (zSn_nd (zSn_nd (zSn_lf zr_65_38) (zSn_lf zr_65_40)) (zSn_nd (zSn_lf zr_65_43) (zSn_lf zr_65_44))))))
theorem zr_66_0 : zSnd 66 0 (o_const 0 1) := zS_iconst (by decide +kernel) rfl (by decide)
theorem zr_66_1 : zSnd 66 1 (o_istore 2 2) := zS_istore_n (i := 2) (by decide +kernel) rfl rfl (by decide +kernel)
theorem zr_66_2 : zSnd 66 2 (o_const 0 3) := zS_iconst (by decide +kernel) rfl (by decide)
theorem zr_66_3 : zSnd 66 3 (o_istore 3 4) := zS_istore_n (i := 3) (by decide +kernel) rfl rfl (by decide +kernel)
theorem zr_66_4 : zSnd 66 4 (o_iload 3 5) := zS_iload_n (i := 3) (by decide +kernel) rfl rfl
theorem zr_66_5 : zSnd 66 5 (o_aload 0 6) := zS_aload_n (i := 0) (by decide +kernel) rfl rfl
theorem zr_66_6 : zSnd 66 6 (o_getf 6 1 9) := zS_getf (idx := 7) (by decide +kernel) rfl (by decide) rfl (by decide) rfl zin_6 zq_180
theorem zr_66_9 : zSnd 66 9 (o_const 1 10) := zS_iconst (by decide +kernel) rfl (by decide)
theorem zr_66_10 : zSnd 66 10 (o_iald 11) := zS_iald (by decide +kernel) rfl
theorem zr_66_11 : zSnd 66 11 (o_cge 36 14) := zS_cge (by decide +kernel : decode (zmB 66) 11 = .ok (.if_icmp .ge 25, 3)) rfl (by decide)
theorem zr_66_14 : zSnd 66 14 (o_iload 2 15) := zS_iload_n (i := 2) (by decide +kernel) rfl rfl
theorem zr_66_15 : zSnd 66 15 (o_aload 0 16) := zS_aload_n (i := 0) (by decide +kernel) rfl rfl
theorem zr_66_16 : zSnd 66 16 (o_iload 3 17) := zS_iload_n (i := 3) (by decide +kernel) rfl rfl
theorem zr_66_17 : zSnd 66 17 (o_const 0 18) := zS_iconst (by decide +kernel) rfl (by decide)
theorem zr_66_18 : zSnd 66 18 (o_callv 6 42 3 3 1 21) := zS_callV (n := 2) (idx := 45) (by decide +kernel) rfl rfl (by decide) rfl zq_190 zq_191 zq_192 (by decide +kernel) zMk_42 (by decide +kernel) (by decide +kernel) (by decide +kernel)
theorem zr_66_21 : zSnd 66 21 (o_aload 0 22) := zS_aload_n (i := 0) (by decide +kernel) rfl rfl
theorem zr_66_22 : zSnd 66 22 (o_iload 3 23) := zS_iload_n (i := 3) (by decide +kernel) rfl rfl
theorem zr_66_23 : zSnd 66 23 (o_iload 1 24) := zS_iload_n (i := 1) (by decide +kernel) rfl rfl
theorem zr_66_24 : zSnd 66 24 (o_callv 6 65 3 5 1 27) := zS_callV (n := 2) (idx := 98) (by decide +kernel) rfl rfl (by decide) rfl zq_241 zq_242 zq_243 (by decide +kernel) zMk_65 (by decide +kernel) (by decide +kernel) (by decide +kernel)
theorem zr_66_27 : zSnd 66 27 (o_imul 28) := zS_imul (by decide +kernel) rfl
theorem zr_66_28 : zSnd 66 28 (o_iadd 29) := zS_iadd (by decide +kernel) rfl
theorem zr_66_29 : zSnd 66 29 (o_istore 2 30) := zS_istore_n (i := 2) (by decide +kernel) rfl rfl (by decide +kernel)
theorem zr_66_30 : zSnd 66 30 (o_iinc 3 1 33) := zS_iinc (by decide +kernel) rfl (by decide +kernel)
theorem zr_66_33 : zSnd 66 33 (o_goto 4) := zS_goto (by decide +kernel : decode (zmB 66) 33 = .ok (.goto (-29), 3)) (by decide)
theorem zr_66_36 : zSnd 66 36 (o_iload 2 37) := zS_iload_n (i := 2) (by decide +kernel) rfl rfl
theorem zr_66_37 : zSnd 66 37 (o_iret) := zS_iret (by decide +kernel) (by decide +kernel)
theorem zT_66 (pc : Nat) : zSnd 66 pc (zc_66 pc) := by
  unfold zc_66
  exact (zSn_nd (zSn_nd (zSn_nd (zSn_nd (zSn_lf zr_66_0) (zSn_nd (zSn_lf zr_66_1) (zSn_lf zr_66_2))) (zSn_nd (zSn_lf zr_66_3) (zSn_nd (zSn_lf zr_66_4) (zSn_lf zr_66_5)))) (zSn_nd (zSn_nd (zSn_lf zr_66_6) (zSn_nd (zSn_lf zr_66_9) (zSn_lf zr_66_10))) (zSn_nd (zSn_nd (zSn_lf zr_66_11) (zSn_lf zr_66_14)) (zSn_nd (zSn_lf zr_66_15) (zSn_lf zr_66_16))))) (zSn_nd (zSn_nd (zSn_nd (zSn_lf zr_66_17) (zSn_nd (zSn_lf zr_66_18) (zSn_lf zr_66_21))) (zSn_nd (zSn_lf zr_66_22) (zSn_nd (zSn_lf zr_66_23) (zSn_lf zr_66_24)))) (zSn_nd (zSn_nd (zSn_lf zr_66_27) (zSn_nd (zSn_lf zr_66_28) (zSn_lf zr_66_29))) (zSn_nd (zSn_nd (zSn_lf zr_66_30) (zSn_lf zr_66_33)) (zSn_nd (zSn_lf zr_66_36) (zSn_lf zr_66_37))))))
theorem zr_67_0 : zSnd 67 0 (o_const 0 1) := zS_iconst (by decide +kernel) rfl (by decide)
theorem zr_67_1 : zSnd 67 1 (o_istore 3 2) := zS_istore_n (i := 3) (by decide +kernel) rfl rfl (by decide +kernel)
theorem zr_67_2 : zSnd 67 2 (o_const 0 3) := zS_iconst (by decide +kernel) rfl (by decide)
theorem zr_67_3 : zSnd 67 3 (o_istore 4 5) := zS_istore (by decide +kernel) rfl (by decide +kernel)
theorem zr_67_5 : zSnd 67 5 (o_iload 4 7) := zS_iload (by decide +kernel) rfl
theorem zr_67_7 : zSnd 67 7 (o_aload 0 8) := zS_aload_n (i := 0) (by decide +kernel) rfl rfl
theorem zr_67_8 : zSnd 67 8 (o_getf 6 1 11) := zS_getf (idx := 7) (by decide +kernel) rfl (by decide) rfl (by decide) rfl zin_6 zq_180
theorem zr_67_11 : zSnd 67 11 (o_const 1 12) := zS_iconst (by decide +kernel) rfl (by decide)
theorem zr_67_12 : zSnd 67 12 (o_iald 13) := zS_iald (by decide +kernel) rfl
theorem zr_67_13 : zSnd 67 13 (o_cge 95 16) := zS_cge (by decide +kernel : decode (zmB 67) 13 = .ok (.if_icmp .ge 82, 3)) rfl (by decide)
theorem zr_67_16 : zSnd 67 16 (o_const 0 17) := zS_iconst (by decide +kernel) rfl (by decide)
theorem zr_67_17 : zSnd 67 17 (o_istore 5 19) := zS_istore (by decide +kernel) rfl (by decide +kernel)
theorem zr_67_19 : zSnd 67 19 (o_iload 5 21) := zS_iload (by decide +kernel) rfl
theorem zr_67_21 : zSnd 67 21 (o_aload 0 22) := zS_aload_n (i := 0) (by decide +kernel) rfl rfl
theorem zr_67_22 : zSnd 67 22 (o_iload 4 24) := zS_iload (by decide +kernel) rfl
theorem zr_67_24 : zSnd 67 24 (o_const 2 25) := zS_iconst (by decide +kernel) rfl (by decide)
theorem zr_67_25 : zSnd 67 25 (o_callv 6 42 3 3 1 28) := zS_callV (n := 2) (idx := 45) (by decide +kernel) rfl rfl (by decide) rfl zq_190 zq_191 zq_192 (by decide +kernel) zMk_42 (by decide +kernel) (by decide +kernel) (by decide +kernel)
theorem zr_67_28 : zSnd 67 28 (o_cge 89 31) := zS_cge (by decide +kernel : decode (zmB 67) 28 = .ok (.if_icmp .ge 61, 3)) rfl (by decide)
theorem zr_67_31 : zSnd 67 31 (o_iload 3 32) := zS_iload_n (i := 3) (by decide +kernel) rfl rfl
theorem zr_67_32 : zSnd 67 32 (o_aload 0 33) := zS_aload_n (i := 0) (by decide +kernel) rfl rfl
theorem zr_67_33 : zSnd 67 33 (o_iload 4 35) := zS_iload (by decide +kernel) rfl
theorem zr_67_35 : zSnd 67 35 (o_iload 5 37) := zS_iload (by decide +kernel) rfl
theorem zr_67_37 : zSnd 67 37 (o_iload 1 38) := zS_iload_n (i := 1) (by decide +kernel) rfl rfl
theorem zr_67_38 : zSnd 67 38 (o_callv 6 44 4 4 1 41) := zS_callV (n := 3) (idx := 73) (by decide +kernel) rfl rfl (by decide) rfl zq_217 zq_218 zq_219 (by decide +kernel) zMk_44 (by decide +kernel) (by decide +kernel) (by decide +kernel)
theorem zr_67_41 : zSnd 67 41 (o_aload 0 42) := zS_aload_n (i := 0) (by decide +kernel) rfl rfl
theorem zr_67_42 : zSnd 67 42 (o_iload 4 44) := zS_iload (by decide +kernel) rfl
theorem zr_67_44 : zSnd 67 44 (o_iload 5 46) := zS_iload (by decide +kernel) rfl
theorem zr_67_46 : zSnd 67 46 (o_iload 2 47) := zS_iload_n (i := 2) (by decide +kernel) rfl rfl
theorem zr_67_47 : zSnd 67 47 (o_callv 6 44 4 4 1 50) := zS_callV (n := 3) (idx := 73) (by decide +kernel) rfl rfl (by decide) rfl zq_217 zq_218 zq_219 (by decide +kernel) zMk_44 (by decide +kernel) (by decide +kernel) (by decide +kernel)
theorem zr_67_50 : zSnd 67 50 (o_cne 57 53) := zS_cne (by decide +kernel : decode (zmB 67) 50 = .ok (.if_icmp .ne 7, 3)) rfl (by decide)
theorem zr_67_53 : zSnd 67 53 (o_const 0 54) := zS_iconst (by decide +kernel) rfl (by decide)
theorem zr_67_54 : zSnd 67 54 (o_goto 58) := zS_goto (by decide +kernel : decode (zmB 67) 54 = .ok (.goto 4, 3)) (by decide)
theorem zr_67_57 : zSnd 67 57 (o_const 1 58) := zS_iconst (by decide +kernel) rfl (by decide)
theorem zr_67_58 : zSnd 67 58 (o_iadd 59) := zS_iadd (by decide +kernel) rfl
theorem zr_67_59 : zSnd 67 59 (o_istore 3 60) := zS_istore_n (i := 3) (by decide +kernel) rfl rfl (by decide +kernel)
theorem zr_67_60 : zSnd 67 60 (o_aload 0 61) := zS_aload_n (i := 0) (by decide +kernel) rfl rfl
theorem zr_67_61 : zSnd 67 61 (o_getf 6 1 64) := zS_getf (idx := 7) (by decide +kernel) rfl (by decide) rfl (by decide) rfl zin_6 zq_180
theorem zr_67_64 : zSnd 67 64 (o_iload 4 66) := zS_iload (by decide +kernel) rfl
theorem zr_67_66 : zSnd 67 66 (o_iload 5 68) := zS_iload (by decide +kernel) rfl
theorem zr_67_68 : zSnd 67 68 (o_call 43 2 2 1 71) := zS_callS (idx := 37) (by decide +kernel) rfl zq_185 zq_186 (by decide +kernel) zMk_43 (by decide +kernel) (by decide +kernel) (by decide +kernel)
theorem zr_67_71 : zSnd 67 71 (o_iload 2 72) := zS_iload_n (i := 2) (by decide +kernel) rfl rfl
theorem zr_67_72 : zSnd 67 72 (o_iadd 73) := zS_iadd (by decide +kernel) rfl
theorem zr_67_73 : zSnd 67 73 (o_aload 0 74) := zS_aload_n (i := 0) (by decide +kernel) rfl rfl
theorem zr_67_74 : zSnd 67 74 (o_iload 4 76) := zS_iload (by decide +kernel) rfl
theorem zr_67_76 : zSnd 67 76 (o_iload 5 78) := zS_iload (by decide +kernel) rfl
theorem zr_67_78 : zSnd 67 78 (o_iload 1 79) := zS_iload_n (i := 1) (by decide +kernel) rfl rfl
theorem zr_67_79 : zSnd 67 79 (o_callv 6 44 4 4 1 82) := zS_callV (n := 3) (idx := 73) (by decide +kernel) rfl rfl (by decide) rfl zq_217 zq_218 zq_219 (by decide +kernel) zMk_44 (by decide +kernel) (by decide +kernel) (by decide +kernel)
theorem zr_67_82 : zSnd 67 82 (o_iast 83) := zS_iast (by decide +kernel) rfl
theorem zr_67_83 : zSnd 67 83 (o_iinc 5 1 86) := zS_iinc (by decide +kernel) rfl (by decide +kernel)
theorem zr_67_86 : zSnd 67 86 (o_goto 19) := zS_goto (by decide +kernel : decode (zmB 67) 86 = .ok (.goto (-67), 3)) (by decide)
theorem zr_67_89 : zSnd 67 89 (o_iinc 4 1 92) := zS_iinc (by decide +kernel) rfl (by decide +kernel)
theorem zr_67_92 : zSnd 67 92 (o_goto 5) := zS_goto (by decide +kernel : decode (zmB 67) 92 = .ok (.goto (-87), 3)) (by decide)
theorem zr_67_95 : zSnd 67 95 (o_iload 3 96) := zS_iload_n (i := 3) (by decide +kernel) rfl rfl
theorem zr_67_96 : zSnd 67 96 (o_iret) := zS_iret (by decide +kernel) (by decide +kernel)
theorem zT_67 (pc : Nat) : zSnd 67 pc (zc_67 pc) := by
  unfold zc_67
  exact (zSn_nd (zSn_nd (zSn_nd (zSn_nd (zSn_nd (zSn_lf zr_67_0) (zSn_nd (zSn_lf zr_67_1) (zSn_lf zr_67_2))) (zSn_nd (zSn_lf zr_67_3) (zSn_nd (zSn_lf zr_67_5) (zSn_lf zr_67_7)))) (zSn_nd (zSn_nd (zSn_lf zr_67_8) (zSn_nd (zSn_lf zr_67_11) (zSn_lf zr_67_12))) (zSn_nd (zSn_nd (zSn_lf zr_67_13) (zSn_lf zr_67_16)) (zSn_nd (zSn_lf zr_67_17) (zSn_lf zr_67_19))))) (zSn_nd (zSn_nd (zSn_nd (zSn_lf zr_67_21) (zSn_nd (zSn_lf zr_67_22) (zSn_lf zr_67_24))) (zSn_nd (zSn_nd (zSn_lf zr_67_25) (zSn_lf zr_67_28)) (zSn_nd (zSn_lf zr_67_31) (zSn_lf zr_67_32)))) (zSn_nd (zSn_nd (zSn_lf zr_67_33) (zSn_nd (zSn_lf zr_67_35) (zSn_lf zr_67_37))) (zSn_nd (zSn_nd (zSn_lf zr_67_38) (zSn_lf zr_67_41)) (zSn_nd (zSn_lf zr_67_42) (zSn_lf zr_67_44)))))) (zSn_nd (zSn_nd (zSn_nd (zSn_nd (zSn_lf zr_67_46) (zSn_nd (zSn_lf zr_67_47) (zSn_lf zr_67_50))) (zSn_nd (zSn_lf zr_67_53) (zSn_nd (zSn_lf zr_67_54) (zSn_lf zr_67_57)))) (zSn_nd (zSn_nd (zSn_lf zr_67_58) (zSn_nd (zSn_lf zr_67_59) (zSn_lf zr_67_60))) (zSn_nd (zSn_nd (zSn_lf zr_67_61) (zSn_lf zr_67_64)) (zSn_nd (zSn_lf zr_67_66) (zSn_lf zr_67_68))))) (zSn_nd (zSn_nd (zSn_nd (zSn_lf zr_67_71) (zSn_nd (zSn_lf zr_67_72) (zSn_lf zr_67_73))) (zSn_nd (zSn_nd (zSn_lf zr_67_74) (zSn_lf zr_67_76)) (zSn_nd (zSn_lf zr_67_78) (zSn_lf zr_67_79)))) (zSn_nd (zSn_nd (zSn_lf zr_67_82) (zSn_nd (zSn_lf zr_67_83) (zSn_lf zr_67_86))) (zSn_nd (zSn_nd (zSn_lf zr_67_89) (zSn_lf zr_67_92)) (zSn_nd (zSn_lf zr_67_95) (zSn_lf zr_67_96)))))))
