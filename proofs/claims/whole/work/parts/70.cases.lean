/-! ===== 70: the law's cases, all but usage (written by a program) ===== -/
theorem zxr (x : Int32) : zr x.toInt := ⟨Int32.le_toInt _, Int32.toInt_lt _⟩
theorem zlw_ini : Cond.initialized RL ∈ zWL := zwl 108 (by decide +kernel) rfl
theorem zhl_0 : Cond.methodLink RL 86 yL_begin ∈ zWL := zwl 667 (by decide +kernel) rfl
theorem zhs_0 : Cond.static yL_begin ∈ zWL := zwl 668 (by decide +kernel) rfl
theorem zhc_0 : Cond.codeWith yL_begin cL_begin 4 (some .int) [(0, 9, 12, 13)] ∈ zWL := zwl 669 (by decide +kernel) rfl
theorem zmk_47 : Cond.methodLink RL 91 yX5_begin ∈ zWL := zwl 933 (by decide +kernel) rfl
theorem zmi_47 : Cond.instanceMethod yX5_begin ∈ zWL := zwl 934 (by decide +kernel) rfl
theorem zms_47 : Cond.selects RX5 yX5_begin yX5_begin ∈ zWL := zwl 935 (by decide +kernel) rfl
theorem lc_0 {p : Program} {l : Launch} {e : Env} {s : State} {m : MethodId} {below : List Frame} {meth : Method} {c : Code} {b L : Nat} {xs : Nat → Int32} {D : va_G} {A : Nat → Nat} {cI cQ cL : ClassId} {o i : Nat} {B : Int} {Q : State → Prop} {d : Drawn} {σ : zSt} {f : Nat → Int64} {H : Heap} {locs : List Loc} {ls : Array Slot} {cells slots : Nat} (hX : zLx p s m meth c b L xs D cI cQ cL) (hfl : l.stackTraces = false) (hL : L ≤ 2048) (hi : i + 3 < L) (hB : 2000 ≤ B ∧ B ≤ 500000) (hs : zLs s D A cI cQ cL o d σ f H locs) (hI : Inv σ B) (hl : lv_has ls 9 (zLv b A o i)) (hc : cells ≤ 100 + i) (hsl : slots ≤ 4000 + 6 * i) (K : zNx p l e s m below meth c b D A cI cQ cL o i B Q) :
    W p l e room_1 (s.setDrawn d) m #[Value.ref b] below meth c H locs cells slots Q (F0 m 164 ls []) := by
  have S := hX.S d
  have hx := S.1
  have hb := S.2.1
  obtain ⟨hd, hσ, hP, hD, hS⟩ := hs
  have hl : lv_has ls 9 [(0, .ref b), (1, .ref (A 0)), (2, .ref (A 9)), (3, .ref o), (4, .int (nI i))] := hl
  refine lv_aload_n hx hb (by decide +kernel : decode code 164 = .ok (.aload_n 1, 1)) rfl (lv_at hl 1 rfl) ?_
  refine lv_aload_n hx hb (by decide +kernel : decode code 165 = .ok (.aload_n 0, 1)) rfl (lv_at hl 0 rfl) ?_
  refine lv_iload hx hb (by decide +kernel : decode code 166 = .ok (.iload 4, 2)) (lv_at hl 4 rfl) ?_
  refine lv_iconst (v := nI 1) hx hb (by decide +kernel : decode code 168 = .ok (.iconst 1, 1)) (by decide) ?_
  refine lv_iadd hx hb (by decide +kernel : decode code 169 = .ok (.iadd, 1)) ?_
  refine zlsld hX hS (j := 1) (by omega) hL (by decide +kernel : decode code 170 = .ok (.iaload, 1)) ?_
  refine lv_aload_n hx hb (by decide +kernel : decode code 171 = .ok (.aload_n 3, 1)) rfl (lv_at hl 3 rfl) ?_
  obtain ⟨k, v, σ1, σ2, f1, hcon, hmod, hth, hf, hk3, hI2⟩ := jc_0 l hfl (f := f) hB hI hσ (zxr (xs (i + 1)))
  refine zlh_call (y := yL_begin) (as := [zI (xs (i + 1)).toInt]) (n := 3) (rest := []) (A0 := zAA s) S hcon zhl_0 zhs_0 zhc_0 zlw_ini ⟨by decide +kernel, by decide +kernel⟩ (by decide +kernel) rfl (by decide) ⟨by decide, by decide⟩ ⟨by show cells + 1 ≤ 601024; omega, by show slots + 6 ≤ 7293034; omega⟩ hl.1 (Nat.le_of_ble_eq_true rfl) (by decide +kernel : decode code 172 = .ok (.invokestatic 86, 3)) (hX.K d) (hX.N d) (hX.Tv d) (hX.Nc d) (hX.Ts d hS) hP hD hS (fun q hq => hq) (fun H1 locs1 hP hD hS hok => ?_)
  refine lv_istore (lv' := [(5, .int (Int32.ofInt k)), (0, .ref b), (1, .ref (A 0)), (2, .ref (A 9)), (3, .ref o), (4, .int (nI i))]) hx hb (by decide +kernel : decode code 175 = .ok (.istore 5, 2)) hl (by decide) rfl (fun ls hl => ?_)
  refine lv_aload_n hx hb (by decide +kernel : decode code 177 = .ok (.aload_n 2, 1)) rfl (lv_at hl 3 rfl) ?_
  refine lv_aload_n hx hb (by decide +kernel : decode code 178 = .ok (.aload_n 0, 1)) rfl (lv_at hl 1 rfl) ?_
  refine lv_iload hx hb (by decide +kernel : decode code 179 = .ok (.iload 4, 2)) (lv_at hl 5 rfl) ?_
  refine lv_iconst (v := nI 1) hx hb (by decide +kernel : decode code 181 = .ok (.iconst 1, 1)) (by decide) ?_
  refine lv_iadd hx hb (by decide +kernel : decode code 182 = .ok (.iadd, 1)) ?_
  refine zlsld hX hS (j := 1) (by omega) hL (by decide +kernel : decode code 183 = .ok (.iaload, 1)) ?_
  refine zlc_V (k := 9) (ci := 6) (n := 1) (as := [zI (xs (i + 1)).toInt]) (rest := []) (A0 := zAA s) S (hmod hok) (by decide) rfl rfl zmk_47 zmi_47 zms_47 zMk_47 (by decide +kernel) rfl (by decide +kernel) (by decide +kernel) ⟨by show cells + 1 ≤ 601024; omega, by show slots + 6 ≤ 7293034; omega⟩ hl.1 (Nat.le_of_ble_eq_true rfl) (by decide +kernel : decode code 184 = .ok (.invokevirtual 91, 3)) (hX.K d) (hX.N d) hP hD hS (fun q hq => hq) (fun H2 locs2 hP hD hS hok2 hvs _ => ?_)
  exact law_tail (p0 := 187) (off := 1351) hX (by omega) (by decide +kernel : decode code 187 = .ok (.istore 6, 2)) (by decide +kernel : decode code 189 = .ok (.aload_n 2, 1)) (by decide +kernel : decode code 190 = .ok (.invokevirtual 92, 3)) (by decide +kernel : decode code 193 = .ok (.iload 5, 2)) (by decide +kernel : decode code 195 = .ok (.if_icmp .eq 5, 3)) (by decide +kernel : decode code 200 = .ok (.iload 5, 2)) (by decide +kernel : decode code 202 = .ok (.ifCond .ne 15, 3)) (by decide +kernel : decode code 205 = .ok (.aload_n 3, 1)) (by decide +kernel : decode code 206 = .ok (.iconst 0, 1)) (by decide +kernel : decode code 207 = .ok (.laload, 1)) (by decide +kernel : decode code 208 = .ok (.iload 6, 2)) (by decide +kernel : decode code 210 = .ok (.i2l, 1)) (by decide +kernel : decode code 211 = .ok (.lcmp, 1)) (by decide +kernel : decode code 212 = .ok (.ifCond .eq 5, 3)) (by decide +kernel : decode code 217 = .ok (.goto 1351, 3)) (by decide) ⟨hd, hok2, hP, hD, hS⟩ hI2 hth hk3 hf hl (by omega) (by omega) K
theorem zhl_1 : Cond.methodLink RL 95 yL_addJob ∈ zWL := zwl 680 (by decide +kernel) rfl
theorem zhs_1 : Cond.static yL_addJob ∈ zWL := zwl 681 (by decide +kernel) rfl
theorem zhc_1 : Cond.codeWith yL_addJob cL_addJob 5 (some .int) [(0, 10, 13, 13), (0, 10, 17, 19)] ∈ zWL := zwl 682 (by decide +kernel) rfl
theorem zmk_50 : Cond.methodLink RL 98 yX5_addJob ∈ zWL := zwl 947 (by decide +kernel) rfl
theorem zmi_50 : Cond.instanceMethod yX5_addJob ∈ zWL := zwl 948 (by decide +kernel) rfl
theorem zms_50 : Cond.selects RX5 yX5_addJob yX5_addJob ∈ zWL := zwl 949 (by decide +kernel) rfl
theorem lc_1 {p : Program} {l : Launch} {e : Env} {s : State} {m : MethodId} {below : List Frame} {meth : Method} {c : Code} {b L : Nat} {xs : Nat → Int32} {D : va_G} {A : Nat → Nat} {cI cQ cL : ClassId} {o i : Nat} {B : Int} {Q : State → Prop} {d : Drawn} {σ : zSt} {f : Nat → Int64} {H : Heap} {locs : List Loc} {ls : Array Slot} {cells slots : Nat} (hX : zLx p s m meth c b L xs D cI cQ cL) (hfl : l.stackTraces = false) (hL : L ≤ 2048) (hi : i + 3 < L) (hB : 2000 ≤ B ∧ B ≤ 500000) (hs : zLs s D A cI cQ cL o d σ f H locs) (hI : Inv σ B) (hl : lv_has ls 9 (zLv b A o i)) (hc : cells ≤ 100 + i) (hsl : slots ≤ 4000 + 6 * i) (K : zNx p l e s m below meth c b D A cI cQ cL o i B Q) :
    W p l e room_1 (s.setDrawn d) m #[Value.ref b] below meth c H locs cells slots Q (F0 m 220 ls []) := by
  have S := hX.S d
  have hx := S.1
  have hb := S.2.1
  obtain ⟨hd, hσ, hP, hD, hS⟩ := hs
  have hl : lv_has ls 9 [(0, .ref b), (1, .ref (A 0)), (2, .ref (A 9)), (3, .ref o), (4, .int (nI i))] := hl
  refine lv_aload_n hx hb (by decide +kernel : decode code 220 = .ok (.aload_n 1, 1)) rfl (lv_at hl 1 rfl) ?_
  refine lv_aload_n hx hb (by decide +kernel : decode code 221 = .ok (.aload_n 0, 1)) rfl (lv_at hl 0 rfl) ?_
  refine lv_iload hx hb (by decide +kernel : decode code 222 = .ok (.iload 4, 2)) (lv_at hl 4 rfl) ?_
  refine lv_iconst (v := nI 1) hx hb (by decide +kernel : decode code 224 = .ok (.iconst 1, 1)) (by decide) ?_
  refine lv_iadd hx hb (by decide +kernel : decode code 225 = .ok (.iadd, 1)) ?_
  refine zlsld hX hS (j := 1) (by omega) hL (by decide +kernel : decode code 226 = .ok (.iaload, 1)) ?_
  refine lv_aload_n hx hb (by decide +kernel : decode code 227 = .ok (.aload_n 0, 1)) rfl (lv_at hl 0 rfl) ?_
  refine lv_iload hx hb (by decide +kernel : decode code 228 = .ok (.iload 4, 2)) (lv_at hl 4 rfl) ?_
  refine lv_iconst (v := nI 2) hx hb (by decide +kernel : decode code 230 = .ok (.iconst 2, 1)) (by decide) ?_
  refine lv_iadd hx hb (by decide +kernel : decode code 231 = .ok (.iadd, 1)) ?_
  refine zlsld hX hS (j := 2) (by omega) hL (by decide +kernel : decode code 232 = .ok (.iaload, 1)) ?_
  refine lv_aload_n hx hb (by decide +kernel : decode code 233 = .ok (.aload_n 3, 1)) rfl (lv_at hl 3 rfl) ?_
  obtain ⟨k, v, σ1, σ2, f1, hcon, hmod, hth, hf, hk3, hI2⟩ := jc_1 l hfl (f := f) hB hI hσ (zxr (xs (i + 1))) (zxr (xs (i + 2)))
  refine zlh_call (y := yL_addJob) (as := [zI (xs (i + 1)).toInt, zI (xs (i + 2)).toInt]) (n := 4) (rest := []) (A0 := zAA s) S hcon zhl_1 zhs_1 zhc_1 zlw_ini ⟨by decide +kernel, by decide +kernel⟩ (by decide +kernel) rfl (by decide) ⟨by decide, by decide⟩ ⟨by show cells + 1 ≤ 601024; omega, by show slots + 6 ≤ 7293034; omega⟩ hl.1 (Nat.le_of_ble_eq_true rfl) (by decide +kernel : decode code 234 = .ok (.invokestatic 95, 3)) (hX.K d) (hX.N d) (hX.Tv d) (hX.Nc d) (hX.Ts d hS) hP hD hS (fun q hq => hq) (fun H1 locs1 hP hD hS hok => ?_)
  refine lv_istore (lv' := [(5, .int (Int32.ofInt k)), (0, .ref b), (1, .ref (A 0)), (2, .ref (A 9)), (3, .ref o), (4, .int (nI i))]) hx hb (by decide +kernel : decode code 237 = .ok (.istore 5, 2)) hl (by decide) rfl (fun ls hl => ?_)
  refine lv_aload_n hx hb (by decide +kernel : decode code 239 = .ok (.aload_n 2, 1)) rfl (lv_at hl 3 rfl) ?_
  refine lv_aload_n hx hb (by decide +kernel : decode code 240 = .ok (.aload_n 0, 1)) rfl (lv_at hl 1 rfl) ?_
  refine lv_iload hx hb (by decide +kernel : decode code 241 = .ok (.iload 4, 2)) (lv_at hl 5 rfl) ?_
  refine lv_iconst (v := nI 1) hx hb (by decide +kernel : decode code 243 = .ok (.iconst 1, 1)) (by decide) ?_
  refine lv_iadd hx hb (by decide +kernel : decode code 244 = .ok (.iadd, 1)) ?_
  refine zlsld hX hS (j := 1) (by omega) hL (by decide +kernel : decode code 245 = .ok (.iaload, 1)) ?_
  refine lv_aload_n hx hb (by decide +kernel : decode code 246 = .ok (.aload_n 0, 1)) rfl (lv_at hl 1 rfl) ?_
  refine lv_iload hx hb (by decide +kernel : decode code 247 = .ok (.iload 4, 2)) (lv_at hl 5 rfl) ?_
  refine lv_iconst (v := nI 2) hx hb (by decide +kernel : decode code 249 = .ok (.iconst 2, 1)) (by decide) ?_
  refine lv_iadd hx hb (by decide +kernel : decode code 250 = .ok (.iadd, 1)) ?_
  refine zlsld hX hS (j := 2) (by omega) hL (by decide +kernel : decode code 251 = .ok (.iaload, 1)) ?_
  refine zlc_V (k := 9) (ci := 6) (n := 2) (as := [zI (xs (i + 1)).toInt, zI (xs (i + 2)).toInt]) (rest := []) (A0 := zAA s) S (hmod hok) (by decide) rfl rfl zmk_50 zmi_50 zms_50 zMk_50 (by decide +kernel) rfl (by decide +kernel) (by decide +kernel) ⟨by show cells + 1 ≤ 601024; omega, by show slots + 6 ≤ 7293034; omega⟩ hl.1 (Nat.le_of_ble_eq_true rfl) (by decide +kernel : decode code 252 = .ok (.invokevirtual 98, 3)) (hX.K d) (hX.N d) hP hD hS (fun q hq => hq) (fun H2 locs2 hP hD hS hok2 hvs _ => ?_)
  exact law_tail (p0 := 255) (off := 1283) hX (by omega) (by decide +kernel : decode code 255 = .ok (.istore 6, 2)) (by decide +kernel : decode code 257 = .ok (.aload_n 2, 1)) (by decide +kernel : decode code 258 = .ok (.invokevirtual 92, 3)) (by decide +kernel : decode code 261 = .ok (.iload 5, 2)) (by decide +kernel : decode code 263 = .ok (.if_icmp .eq 5, 3)) (by decide +kernel : decode code 268 = .ok (.iload 5, 2)) (by decide +kernel : decode code 270 = .ok (.ifCond .ne 15, 3)) (by decide +kernel : decode code 273 = .ok (.aload_n 3, 1)) (by decide +kernel : decode code 274 = .ok (.iconst 0, 1)) (by decide +kernel : decode code 275 = .ok (.laload, 1)) (by decide +kernel : decode code 276 = .ok (.iload 6, 2)) (by decide +kernel : decode code 278 = .ok (.i2l, 1)) (by decide +kernel : decode code 279 = .ok (.lcmp, 1)) (by decide +kernel : decode code 280 = .ok (.ifCond .eq 5, 3)) (by decide +kernel : decode code 285 = .ok (.goto 1283, 3)) (by decide) ⟨hd, hok2, hP, hD, hS⟩ hI2 hth hk3 hf hl (by omega) (by omega) K
theorem zhl_2 : Cond.methodLink RL 99 yL_addOperation ∈ zWL := zwl 705 (by decide +kernel) rfl
theorem zhs_2 : Cond.static yL_addOperation ∈ zWL := zwl 706 (by decide +kernel) rfl
theorem zhc_2 : Cond.codeWith yL_addOperation cL_addOperation 6 (some .int) [(0, 12, 15, 25), (0, 12, 19, 13), (0, 12, 23, 19)] ∈ zWL := zwl 707 (by decide +kernel) rfl
theorem zmk_53 : Cond.methodLink RL 102 yX5_addOperation ∈ zWL := zwl 959 (by decide +kernel) rfl
theorem zmi_53 : Cond.instanceMethod yX5_addOperation ∈ zWL := zwl 960 (by decide +kernel) rfl
theorem zms_53 : Cond.selects RX5 yX5_addOperation yX5_addOperation ∈ zWL := zwl 961 (by decide +kernel) rfl
theorem lc_2 {p : Program} {l : Launch} {e : Env} {s : State} {m : MethodId} {below : List Frame} {meth : Method} {c : Code} {b L : Nat} {xs : Nat → Int32} {D : va_G} {A : Nat → Nat} {cI cQ cL : ClassId} {o i : Nat} {B : Int} {Q : State → Prop} {d : Drawn} {σ : zSt} {f : Nat → Int64} {H : Heap} {locs : List Loc} {ls : Array Slot} {cells slots : Nat} (hX : zLx p s m meth c b L xs D cI cQ cL) (hfl : l.stackTraces = false) (hL : L ≤ 2048) (hi : i + 3 < L) (hB : 2000 ≤ B ∧ B ≤ 500000) (hs : zLs s D A cI cQ cL o d σ f H locs) (hI : Inv σ B) (hl : lv_has ls 9 (zLv b A o i)) (hc : cells ≤ 100 + i) (hsl : slots ≤ 4000 + 6 * i) (K : zNx p l e s m below meth c b D A cI cQ cL o i B Q) :
    W p l e room_1 (s.setDrawn d) m #[Value.ref b] below meth c H locs cells slots Q (F0 m 288 ls []) := by
  have S := hX.S d
  have hx := S.1
  have hb := S.2.1
  obtain ⟨hd, hσ, hP, hD, hS⟩ := hs
  have hl : lv_has ls 9 [(0, .ref b), (1, .ref (A 0)), (2, .ref (A 9)), (3, .ref o), (4, .int (nI i))] := hl
  refine lv_aload_n hx hb (by decide +kernel : decode code 288 = .ok (.aload_n 1, 1)) rfl (lv_at hl 1 rfl) ?_
  refine lv_aload_n hx hb (by decide +kernel : decode code 289 = .ok (.aload_n 0, 1)) rfl (lv_at hl 0 rfl) ?_
  refine lv_iload hx hb (by decide +kernel : decode code 290 = .ok (.iload 4, 2)) (lv_at hl 4 rfl) ?_
  refine lv_iconst (v := nI 1) hx hb (by decide +kernel : decode code 292 = .ok (.iconst 1, 1)) (by decide) ?_
  refine lv_iadd hx hb (by decide +kernel : decode code 293 = .ok (.iadd, 1)) ?_
  refine zlsld hX hS (j := 1) (by omega) hL (by decide +kernel : decode code 294 = .ok (.iaload, 1)) ?_
  refine lv_aload_n hx hb (by decide +kernel : decode code 295 = .ok (.aload_n 0, 1)) rfl (lv_at hl 0 rfl) ?_
  refine lv_iload hx hb (by decide +kernel : decode code 296 = .ok (.iload 4, 2)) (lv_at hl 4 rfl) ?_
  refine lv_iconst (v := nI 2) hx hb (by decide +kernel : decode code 298 = .ok (.iconst 2, 1)) (by decide) ?_
  refine lv_iadd hx hb (by decide +kernel : decode code 299 = .ok (.iadd, 1)) ?_
  refine zlsld hX hS (j := 2) (by omega) hL (by decide +kernel : decode code 300 = .ok (.iaload, 1)) ?_
  refine lv_aload_n hx hb (by decide +kernel : decode code 301 = .ok (.aload_n 0, 1)) rfl (lv_at hl 0 rfl) ?_
  refine lv_iload hx hb (by decide +kernel : decode code 302 = .ok (.iload 4, 2)) (lv_at hl 4 rfl) ?_
  refine lv_iconst (v := nI 3) hx hb (by decide +kernel : decode code 304 = .ok (.iconst 3, 1)) (by decide) ?_
  refine lv_iadd hx hb (by decide +kernel : decode code 305 = .ok (.iadd, 1)) ?_
  refine zlsld hX hS (j := 3) (by omega) hL (by decide +kernel : decode code 306 = .ok (.iaload, 1)) ?_
  refine lv_aload_n hx hb (by decide +kernel : decode code 307 = .ok (.aload_n 3, 1)) rfl (lv_at hl 3 rfl) ?_
  obtain ⟨k, v, σ1, σ2, f1, hcon, hmod, hth, hf, hk3, hI2⟩ := jc_2 l hfl (f := f) hB hI hσ (zxr (xs (i + 1))) (zxr (xs (i + 2))) (zxr (xs (i + 3)))
  refine zlh_call (y := yL_addOperation) (as := [zI (xs (i + 1)).toInt, zI (xs (i + 2)).toInt, zI (xs (i + 3)).toInt]) (n := 5) (rest := []) (A0 := zAA s) S hcon zhl_2 zhs_2 zhc_2 zlw_ini ⟨by decide +kernel, by decide +kernel⟩ (by decide +kernel) rfl (by decide) ⟨by decide, by decide⟩ ⟨by show cells + 1 ≤ 601024; omega, by show slots + 6 ≤ 7293034; omega⟩ hl.1 (Nat.le_of_ble_eq_true rfl) (by decide +kernel : decode code 308 = .ok (.invokestatic 99, 3)) (hX.K d) (hX.N d) (hX.Tv d) (hX.Nc d) (hX.Ts d hS) hP hD hS (fun q hq => hq) (fun H1 locs1 hP hD hS hok => ?_)
  refine lv_istore (lv' := [(5, .int (Int32.ofInt k)), (0, .ref b), (1, .ref (A 0)), (2, .ref (A 9)), (3, .ref o), (4, .int (nI i))]) hx hb (by decide +kernel : decode code 311 = .ok (.istore 5, 2)) hl (by decide) rfl (fun ls hl => ?_)
  refine lv_aload_n hx hb (by decide +kernel : decode code 313 = .ok (.aload_n 2, 1)) rfl (lv_at hl 3 rfl) ?_
  refine lv_aload_n hx hb (by decide +kernel : decode code 314 = .ok (.aload_n 0, 1)) rfl (lv_at hl 1 rfl) ?_
  refine lv_iload hx hb (by decide +kernel : decode code 315 = .ok (.iload 4, 2)) (lv_at hl 5 rfl) ?_
  refine lv_iconst (v := nI 1) hx hb (by decide +kernel : decode code 317 = .ok (.iconst 1, 1)) (by decide) ?_
  refine lv_iadd hx hb (by decide +kernel : decode code 318 = .ok (.iadd, 1)) ?_
  refine zlsld hX hS (j := 1) (by omega) hL (by decide +kernel : decode code 319 = .ok (.iaload, 1)) ?_
  refine lv_aload_n hx hb (by decide +kernel : decode code 320 = .ok (.aload_n 0, 1)) rfl (lv_at hl 1 rfl) ?_
  refine lv_iload hx hb (by decide +kernel : decode code 321 = .ok (.iload 4, 2)) (lv_at hl 5 rfl) ?_
  refine lv_iconst (v := nI 2) hx hb (by decide +kernel : decode code 323 = .ok (.iconst 2, 1)) (by decide) ?_
  refine lv_iadd hx hb (by decide +kernel : decode code 324 = .ok (.iadd, 1)) ?_
  refine zlsld hX hS (j := 2) (by omega) hL (by decide +kernel : decode code 325 = .ok (.iaload, 1)) ?_
  refine lv_aload_n hx hb (by decide +kernel : decode code 326 = .ok (.aload_n 0, 1)) rfl (lv_at hl 1 rfl) ?_
  refine lv_iload hx hb (by decide +kernel : decode code 327 = .ok (.iload 4, 2)) (lv_at hl 5 rfl) ?_
  refine lv_iconst (v := nI 3) hx hb (by decide +kernel : decode code 329 = .ok (.iconst 3, 1)) (by decide) ?_
  refine lv_iadd hx hb (by decide +kernel : decode code 330 = .ok (.iadd, 1)) ?_
  refine zlsld hX hS (j := 3) (by omega) hL (by decide +kernel : decode code 331 = .ok (.iaload, 1)) ?_
  refine zlc_V (k := 9) (ci := 6) (n := 3) (as := [zI (xs (i + 1)).toInt, zI (xs (i + 2)).toInt, zI (xs (i + 3)).toInt]) (rest := []) (A0 := zAA s) S (hmod hok) (by decide) rfl rfl zmk_53 zmi_53 zms_53 zMk_53 (by decide +kernel) rfl (by decide +kernel) (by decide +kernel) ⟨by show cells + 1 ≤ 601024; omega, by show slots + 6 ≤ 7293034; omega⟩ hl.1 (Nat.le_of_ble_eq_true rfl) (by decide +kernel : decode code 332 = .ok (.invokevirtual 102, 3)) (hX.K d) (hX.N d) hP hD hS (fun q hq => hq) (fun H2 locs2 hP hD hS hok2 hvs _ => ?_)
  exact law_tail (p0 := 335) (off := 1203) hX (by omega) (by decide +kernel : decode code 335 = .ok (.istore 6, 2)) (by decide +kernel : decode code 337 = .ok (.aload_n 2, 1)) (by decide +kernel : decode code 338 = .ok (.invokevirtual 92, 3)) (by decide +kernel : decode code 341 = .ok (.iload 5, 2)) (by decide +kernel : decode code 343 = .ok (.if_icmp .eq 5, 3)) (by decide +kernel : decode code 348 = .ok (.iload 5, 2)) (by decide +kernel : decode code 350 = .ok (.ifCond .ne 15, 3)) (by decide +kernel : decode code 353 = .ok (.aload_n 3, 1)) (by decide +kernel : decode code 354 = .ok (.iconst 0, 1)) (by decide +kernel : decode code 355 = .ok (.laload, 1)) (by decide +kernel : decode code 356 = .ok (.iload 6, 2)) (by decide +kernel : decode code 358 = .ok (.i2l, 1)) (by decide +kernel : decode code 359 = .ok (.lcmp, 1)) (by decide +kernel : decode code 360 = .ok (.ifCond .eq 5, 3)) (by decide +kernel : decode code 365 = .ok (.goto 1203, 3)) (by decide) ⟨hd, hok2, hP, hD, hS⟩ hI2 hth hk3 hf hl (by omega) (by omega) K
theorem zhl_3 : Cond.methodLink RL 103 yL_breakDown ∈ zWL := zwl 716 (by decide +kernel) rfl
theorem zhs_3 : Cond.static yL_breakDown ∈ zWL := zwl 717 (by decide +kernel) rfl
theorem zhc_3 : Cond.codeWith yL_breakDown cL_breakDown 6 (some .int) [(0, 12, 15, 25), (0, 12, 19, 13), (0, 12, 23, 19)] ∈ zWL := zwl 718 (by decide +kernel) rfl
theorem zmk_56 : Cond.methodLink RL 105 yX5_breakDown ∈ zWL := zwl 986 (by decide +kernel) rfl
theorem zmi_56 : Cond.instanceMethod yX5_breakDown ∈ zWL := zwl 987 (by decide +kernel) rfl
theorem zms_56 : Cond.selects RX5 yX5_breakDown yX5_breakDown ∈ zWL := zwl 988 (by decide +kernel) rfl
theorem lc_3 {p : Program} {l : Launch} {e : Env} {s : State} {m : MethodId} {below : List Frame} {meth : Method} {c : Code} {b L : Nat} {xs : Nat → Int32} {D : va_G} {A : Nat → Nat} {cI cQ cL : ClassId} {o i : Nat} {B : Int} {Q : State → Prop} {d : Drawn} {σ : zSt} {f : Nat → Int64} {H : Heap} {locs : List Loc} {ls : Array Slot} {cells slots : Nat} (hX : zLx p s m meth c b L xs D cI cQ cL) (hfl : l.stackTraces = false) (hL : L ≤ 2048) (hi : i + 3 < L) (hB : 2000 ≤ B ∧ B ≤ 500000) (hs : zLs s D A cI cQ cL o d σ f H locs) (hI : Inv σ B) (hl : lv_has ls 9 (zLv b A o i)) (hc : cells ≤ 100 + i) (hsl : slots ≤ 4000 + 6 * i) (K : zNx p l e s m below meth c b D A cI cQ cL o i B Q) :
    W p l e room_1 (s.setDrawn d) m #[Value.ref b] below meth c H locs cells slots Q (F0 m 368 ls []) := by
  have S := hX.S d
  have hx := S.1
  have hb := S.2.1
  obtain ⟨hd, hσ, hP, hD, hS⟩ := hs
  have hl : lv_has ls 9 [(0, .ref b), (1, .ref (A 0)), (2, .ref (A 9)), (3, .ref o), (4, .int (nI i))] := hl
  refine lv_aload_n hx hb (by decide +kernel : decode code 368 = .ok (.aload_n 1, 1)) rfl (lv_at hl 1 rfl) ?_
  refine lv_aload_n hx hb (by decide +kernel : decode code 369 = .ok (.aload_n 0, 1)) rfl (lv_at hl 0 rfl) ?_
  refine lv_iload hx hb (by decide +kernel : decode code 370 = .ok (.iload 4, 2)) (lv_at hl 4 rfl) ?_
  refine lv_iconst (v := nI 1) hx hb (by decide +kernel : decode code 372 = .ok (.iconst 1, 1)) (by decide) ?_
  refine lv_iadd hx hb (by decide +kernel : decode code 373 = .ok (.iadd, 1)) ?_
  refine zlsld hX hS (j := 1) (by omega) hL (by decide +kernel : decode code 374 = .ok (.iaload, 1)) ?_
  refine lv_aload_n hx hb (by decide +kernel : decode code 375 = .ok (.aload_n 0, 1)) rfl (lv_at hl 0 rfl) ?_
  refine lv_iload hx hb (by decide +kernel : decode code 376 = .ok (.iload 4, 2)) (lv_at hl 4 rfl) ?_
  refine lv_iconst (v := nI 2) hx hb (by decide +kernel : decode code 378 = .ok (.iconst 2, 1)) (by decide) ?_
  refine lv_iadd hx hb (by decide +kernel : decode code 379 = .ok (.iadd, 1)) ?_
  refine zlsld hX hS (j := 2) (by omega) hL (by decide +kernel : decode code 380 = .ok (.iaload, 1)) ?_
  refine lv_aload_n hx hb (by decide +kernel : decode code 381 = .ok (.aload_n 0, 1)) rfl (lv_at hl 0 rfl) ?_
  refine lv_iload hx hb (by decide +kernel : decode code 382 = .ok (.iload 4, 2)) (lv_at hl 4 rfl) ?_
  refine lv_iconst (v := nI 3) hx hb (by decide +kernel : decode code 384 = .ok (.iconst 3, 1)) (by decide) ?_
  refine lv_iadd hx hb (by decide +kernel : decode code 385 = .ok (.iadd, 1)) ?_
  refine zlsld hX hS (j := 3) (by omega) hL (by decide +kernel : decode code 386 = .ok (.iaload, 1)) ?_
  refine lv_aload_n hx hb (by decide +kernel : decode code 387 = .ok (.aload_n 3, 1)) rfl (lv_at hl 3 rfl) ?_
  obtain ⟨k, v, σ1, σ2, f1, hcon, hmod, hth, hf, hk3, hI2⟩ := jc_3 l hfl (f := f) hB hI hσ (zxr (xs (i + 1))) (zxr (xs (i + 2))) (zxr (xs (i + 3)))
  refine zlh_call (y := yL_breakDown) (as := [zI (xs (i + 1)).toInt, zI (xs (i + 2)).toInt, zI (xs (i + 3)).toInt]) (n := 5) (rest := []) (A0 := zAA s) S hcon zhl_3 zhs_3 zhc_3 zlw_ini ⟨by decide +kernel, by decide +kernel⟩ (by decide +kernel) rfl (by decide) ⟨by decide, by decide⟩ ⟨by show cells + 1 ≤ 601024; omega, by show slots + 6 ≤ 7293034; omega⟩ hl.1 (Nat.le_of_ble_eq_true rfl) (by decide +kernel : decode code 388 = .ok (.invokestatic 103, 3)) (hX.K d) (hX.N d) (hX.Tv d) (hX.Nc d) (hX.Ts d hS) hP hD hS (fun q hq => hq) (fun H1 locs1 hP hD hS hok => ?_)
  refine lv_istore (lv' := [(5, .int (Int32.ofInt k)), (0, .ref b), (1, .ref (A 0)), (2, .ref (A 9)), (3, .ref o), (4, .int (nI i))]) hx hb (by decide +kernel : decode code 391 = .ok (.istore 5, 2)) hl (by decide) rfl (fun ls hl => ?_)
  refine lv_aload_n hx hb (by decide +kernel : decode code 393 = .ok (.aload_n 2, 1)) rfl (lv_at hl 3 rfl) ?_
  refine lv_aload_n hx hb (by decide +kernel : decode code 394 = .ok (.aload_n 0, 1)) rfl (lv_at hl 1 rfl) ?_
  refine lv_iload hx hb (by decide +kernel : decode code 395 = .ok (.iload 4, 2)) (lv_at hl 5 rfl) ?_
  refine lv_iconst (v := nI 1) hx hb (by decide +kernel : decode code 397 = .ok (.iconst 1, 1)) (by decide) ?_
  refine lv_iadd hx hb (by decide +kernel : decode code 398 = .ok (.iadd, 1)) ?_
  refine zlsld hX hS (j := 1) (by omega) hL (by decide +kernel : decode code 399 = .ok (.iaload, 1)) ?_
  refine lv_aload_n hx hb (by decide +kernel : decode code 400 = .ok (.aload_n 0, 1)) rfl (lv_at hl 1 rfl) ?_
  refine lv_iload hx hb (by decide +kernel : decode code 401 = .ok (.iload 4, 2)) (lv_at hl 5 rfl) ?_
  refine lv_iconst (v := nI 2) hx hb (by decide +kernel : decode code 403 = .ok (.iconst 2, 1)) (by decide) ?_
  refine lv_iadd hx hb (by decide +kernel : decode code 404 = .ok (.iadd, 1)) ?_
  refine zlsld hX hS (j := 2) (by omega) hL (by decide +kernel : decode code 405 = .ok (.iaload, 1)) ?_
  refine lv_aload_n hx hb (by decide +kernel : decode code 406 = .ok (.aload_n 0, 1)) rfl (lv_at hl 1 rfl) ?_
  refine lv_iload hx hb (by decide +kernel : decode code 407 = .ok (.iload 4, 2)) (lv_at hl 5 rfl) ?_
  refine lv_iconst (v := nI 3) hx hb (by decide +kernel : decode code 409 = .ok (.iconst 3, 1)) (by decide) ?_
  refine lv_iadd hx hb (by decide +kernel : decode code 410 = .ok (.iadd, 1)) ?_
  refine zlsld hX hS (j := 3) (by omega) hL (by decide +kernel : decode code 411 = .ok (.iaload, 1)) ?_
  refine zlc_V (k := 9) (ci := 6) (n := 3) (as := [zI (xs (i + 1)).toInt, zI (xs (i + 2)).toInt, zI (xs (i + 3)).toInt]) (rest := []) (A0 := zAA s) S (hmod hok) (by decide) rfl rfl zmk_56 zmi_56 zms_56 zMk_56 (by decide +kernel) rfl (by decide +kernel) (by decide +kernel) ⟨by show cells + 1 ≤ 601024; omega, by show slots + 6 ≤ 7293034; omega⟩ hl.1 (Nat.le_of_ble_eq_true rfl) (by decide +kernel : decode code 412 = .ok (.invokevirtual 105, 3)) (hX.K d) (hX.N d) hP hD hS (fun q hq => hq) (fun H2 locs2 hP hD hS hok2 hvs _ => ?_)
  exact law_tail (p0 := 415) (off := 1123) hX (by omega) (by decide +kernel : decode code 415 = .ok (.istore 6, 2)) (by decide +kernel : decode code 417 = .ok (.aload_n 2, 1)) (by decide +kernel : decode code 418 = .ok (.invokevirtual 92, 3)) (by decide +kernel : decode code 421 = .ok (.iload 5, 2)) (by decide +kernel : decode code 423 = .ok (.if_icmp .eq 5, 3)) (by decide +kernel : decode code 428 = .ok (.iload 5, 2)) (by decide +kernel : decode code 430 = .ok (.ifCond .ne 15, 3)) (by decide +kernel : decode code 433 = .ok (.aload_n 3, 1)) (by decide +kernel : decode code 434 = .ok (.iconst 0, 1)) (by decide +kernel : decode code 435 = .ok (.laload, 1)) (by decide +kernel : decode code 436 = .ok (.iload 6, 2)) (by decide +kernel : decode code 438 = .ok (.i2l, 1)) (by decide +kernel : decode code 439 = .ok (.lcmp, 1)) (by decide +kernel : decode code 440 = .ok (.ifCond .eq 5, 3)) (by decide +kernel : decode code 445 = .ok (.goto 1123, 3)) (by decide) ⟨hd, hok2, hP, hD, hS⟩ hI2 hth hk3 hf hl (by omega) (by omega) K
theorem zhl_4 : Cond.methodLink RL 106 yL_repaired ∈ zWL := zwl 726 (by decide +kernel) rfl
theorem zhs_4 : Cond.static yL_repaired ∈ zWL := zwl 727 (by decide +kernel) rfl
theorem zhc_4 : Cond.codeWith yL_repaired cL_repaired 3 (some .int) [(0, 8, 11, 19)] ∈ zWL := zwl 728 (by decide +kernel) rfl
theorem zmk_57 : Cond.methodLink RL 109 yX5_repaired ∈ zWL := zwl 998 (by decide +kernel) rfl
theorem zmi_57 : Cond.instanceMethod yX5_repaired ∈ zWL := zwl 999 (by decide +kernel) rfl
theorem zms_57 : Cond.selects RX5 yX5_repaired yX5_repaired ∈ zWL := zwl 1000 (by decide +kernel) rfl
theorem lc_4 {p : Program} {l : Launch} {e : Env} {s : State} {m : MethodId} {below : List Frame} {meth : Method} {c : Code} {b L : Nat} {xs : Nat → Int32} {D : va_G} {A : Nat → Nat} {cI cQ cL : ClassId} {o i : Nat} {B : Int} {Q : State → Prop} {d : Drawn} {σ : zSt} {f : Nat → Int64} {H : Heap} {locs : List Loc} {ls : Array Slot} {cells slots : Nat} (hX : zLx p s m meth c b L xs D cI cQ cL) (hfl : l.stackTraces = false) (hL : L ≤ 2048) (hi : i + 3 < L) (hB : 2000 ≤ B ∧ B ≤ 500000) (hs : zLs s D A cI cQ cL o d σ f H locs) (hI : Inv σ B) (hl : lv_has ls 9 (zLv b A o i)) (hc : cells ≤ 100 + i) (hsl : slots ≤ 4000 + 6 * i) (K : zNx p l e s m below meth c b D A cI cQ cL o i B Q) :
    W p l e room_1 (s.setDrawn d) m #[Value.ref b] below meth c H locs cells slots Q (F0 m 448 ls []) := by
  have S := hX.S d
  have hx := S.1
  have hb := S.2.1
  obtain ⟨hd, hσ, hP, hD, hS⟩ := hs
  have hl : lv_has ls 9 [(0, .ref b), (1, .ref (A 0)), (2, .ref (A 9)), (3, .ref o), (4, .int (nI i))] := hl
  refine lv_aload_n hx hb (by decide +kernel : decode code 448 = .ok (.aload_n 1, 1)) rfl (lv_at hl 1 rfl) ?_
  refine lv_aload_n hx hb (by decide +kernel : decode code 449 = .ok (.aload_n 3, 1)) rfl (lv_at hl 3 rfl) ?_
  obtain ⟨k, v, σ1, σ2, f1, hcon, hmod, hth, hf, hk3, hI2⟩ := jc_4 l hfl (f := f) hB hI hσ
  refine zlh_call (y := yL_repaired) (as := []) (n := 2) (rest := []) (A0 := zAA s) S hcon zhl_4 zhs_4 zhc_4 zlw_ini ⟨by decide +kernel, by decide +kernel⟩ (by decide +kernel) rfl (by decide) ⟨by decide, by decide⟩ ⟨by show cells + 1 ≤ 601024; omega, by show slots + 6 ≤ 7293034; omega⟩ hl.1 (Nat.le_of_ble_eq_true rfl) (by decide +kernel : decode code 450 = .ok (.invokestatic 106, 3)) (hX.K d) (hX.N d) (hX.Tv d) (hX.Nc d) (hX.Ts d hS) hP hD hS (fun q hq => hq) (fun H1 locs1 hP hD hS hok => ?_)
  refine lv_istore (lv' := [(5, .int (Int32.ofInt k)), (0, .ref b), (1, .ref (A 0)), (2, .ref (A 9)), (3, .ref o), (4, .int (nI i))]) hx hb (by decide +kernel : decode code 453 = .ok (.istore 5, 2)) hl (by decide) rfl (fun ls hl => ?_)
  refine lv_aload_n hx hb (by decide +kernel : decode code 455 = .ok (.aload_n 2, 1)) rfl (lv_at hl 3 rfl) ?_
  refine zlc_V (k := 9) (ci := 6) (n := 0) (as := []) (rest := []) (A0 := zAA s) S (hmod hok) (by decide) rfl rfl zmk_57 zmi_57 zms_57 zMk_57 (by decide +kernel) rfl (by decide +kernel) (by decide +kernel) ⟨by show cells + 1 ≤ 601024; omega, by show slots + 6 ≤ 7293034; omega⟩ hl.1 (Nat.le_of_ble_eq_true rfl) (by decide +kernel : decode code 456 = .ok (.invokevirtual 109, 3)) (hX.K d) (hX.N d) hP hD hS (fun q hq => hq) (fun H2 locs2 hP hD hS hok2 hvs _ => ?_)
  exact law_tail (p0 := 459) (off := 1079) hX (by omega) (by decide +kernel : decode code 459 = .ok (.istore 6, 2)) (by decide +kernel : decode code 461 = .ok (.aload_n 2, 1)) (by decide +kernel : decode code 462 = .ok (.invokevirtual 92, 3)) (by decide +kernel : decode code 465 = .ok (.iload 5, 2)) (by decide +kernel : decode code 467 = .ok (.if_icmp .eq 5, 3)) (by decide +kernel : decode code 472 = .ok (.iload 5, 2)) (by decide +kernel : decode code 474 = .ok (.ifCond .ne 15, 3)) (by decide +kernel : decode code 477 = .ok (.aload_n 3, 1)) (by decide +kernel : decode code 478 = .ok (.iconst 0, 1)) (by decide +kernel : decode code 479 = .ok (.laload, 1)) (by decide +kernel : decode code 480 = .ok (.iload 6, 2)) (by decide +kernel : decode code 482 = .ok (.i2l, 1)) (by decide +kernel : decode code 483 = .ok (.lcmp, 1)) (by decide +kernel : decode code 484 = .ok (.ifCond .eq 5, 3)) (by decide +kernel : decode code 489 = .ok (.goto 1079, 3)) (by decide) ⟨hd, hok2, hP, hD, hS⟩ hI2 hth hk3 hf hl (by omega) (by omega) K
theorem zhl_5 : Cond.methodLink RL 110 yL_plan ∈ zWL := zwl 734 (by decide +kernel) rfl
theorem zhs_5 : Cond.static yL_plan ∈ zWL := zwl 735 (by decide +kernel) rfl
theorem zhc_5 : Cond.codeWith yL_plan cL_plan 4 (some .int) [(0, 9, 12, 13)] ∈ zWL := zwl 736 (by decide +kernel) rfl
theorem zmk_70 : Cond.methodLink RL 112 yX5_plan ∈ zWL := zwl 1002 (by decide +kernel) rfl
theorem zmi_70 : Cond.instanceMethod yX5_plan ∈ zWL := zwl 1003 (by decide +kernel) rfl
theorem zms_70 : Cond.selects RX5 yX5_plan yX5_plan ∈ zWL := zwl 1004 (by decide +kernel) rfl
theorem lc_5 {p : Program} {l : Launch} {e : Env} {s : State} {m : MethodId} {below : List Frame} {meth : Method} {c : Code} {b L : Nat} {xs : Nat → Int32} {D : va_G} {A : Nat → Nat} {cI cQ cL : ClassId} {o i : Nat} {B : Int} {Q : State → Prop} {d : Drawn} {σ : zSt} {f : Nat → Int64} {H : Heap} {locs : List Loc} {ls : Array Slot} {cells slots : Nat} (hX : zLx p s m meth c b L xs D cI cQ cL) (hfl : l.stackTraces = false) (hL : L ≤ 2048) (hi : i + 3 < L) (hB : 2000 ≤ B ∧ B ≤ 500000) (hs : zLs s D A cI cQ cL o d σ f H locs) (hI : Inv σ B) (hl : lv_has ls 9 (zLv b A o i)) (hc : cells ≤ 100 + i) (hsl : slots ≤ 4000 + 6 * i) (K : zNx p l e s m below meth c b D A cI cQ cL o i B Q) :
    W p l e room_1 (s.setDrawn d) m #[Value.ref b] below meth c H locs cells slots Q (F0 m 492 ls []) := by
  have S := hX.S d
  have hx := S.1
  have hb := S.2.1
  obtain ⟨hd, hσ, hP, hD, hS⟩ := hs
  have hl : lv_has ls 9 [(0, .ref b), (1, .ref (A 0)), (2, .ref (A 9)), (3, .ref o), (4, .int (nI i))] := hl
  refine lv_aload_n hx hb (by decide +kernel : decode code 492 = .ok (.aload_n 1, 1)) rfl (lv_at hl 1 rfl) ?_
  refine lv_aload_n hx hb (by decide +kernel : decode code 493 = .ok (.aload_n 0, 1)) rfl (lv_at hl 0 rfl) ?_
  refine lv_iload hx hb (by decide +kernel : decode code 494 = .ok (.iload 4, 2)) (lv_at hl 4 rfl) ?_
  refine lv_iconst (v := nI 1) hx hb (by decide +kernel : decode code 496 = .ok (.iconst 1, 1)) (by decide) ?_
  refine lv_iadd hx hb (by decide +kernel : decode code 497 = .ok (.iadd, 1)) ?_
  refine zlsld hX hS (j := 1) (by omega) hL (by decide +kernel : decode code 498 = .ok (.iaload, 1)) ?_
  refine lv_aload_n hx hb (by decide +kernel : decode code 499 = .ok (.aload_n 3, 1)) rfl (lv_at hl 3 rfl) ?_
  obtain ⟨k, v, σ1, σ2, f1, hcon, hmod, hth, hf, hk3, hI2⟩ := jc_5 l hfl (f := f) hB hI hσ (zxr (xs (i + 1)))
  refine zlh_call (y := yL_plan) (as := [zI (xs (i + 1)).toInt]) (n := 3) (rest := []) (A0 := zAA s) S hcon zhl_5 zhs_5 zhc_5 zlw_ini ⟨by decide +kernel, by decide +kernel⟩ (by decide +kernel) rfl (by decide) ⟨by decide, by decide⟩ ⟨by show cells + 1 ≤ 601024; omega, by show slots + 6 ≤ 7293034; omega⟩ hl.1 (Nat.le_of_ble_eq_true rfl) (by decide +kernel : decode code 500 = .ok (.invokestatic 110, 3)) (hX.K d) (hX.N d) (hX.Tv d) (hX.Nc d) (hX.Ts d hS) hP hD hS (fun q hq => hq) (fun H1 locs1 hP hD hS hok => ?_)
  refine lv_istore (lv' := [(5, .int (Int32.ofInt k)), (0, .ref b), (1, .ref (A 0)), (2, .ref (A 9)), (3, .ref o), (4, .int (nI i))]) hx hb (by decide +kernel : decode code 503 = .ok (.istore 5, 2)) hl (by decide) rfl (fun ls hl => ?_)
  refine lv_aload_n hx hb (by decide +kernel : decode code 505 = .ok (.aload_n 2, 1)) rfl (lv_at hl 3 rfl) ?_
  refine lv_aload_n hx hb (by decide +kernel : decode code 506 = .ok (.aload_n 0, 1)) rfl (lv_at hl 1 rfl) ?_
  refine lv_iload hx hb (by decide +kernel : decode code 507 = .ok (.iload 4, 2)) (lv_at hl 5 rfl) ?_
  refine lv_iconst (v := nI 1) hx hb (by decide +kernel : decode code 509 = .ok (.iconst 1, 1)) (by decide) ?_
  refine lv_iadd hx hb (by decide +kernel : decode code 510 = .ok (.iadd, 1)) ?_
  refine zlsld hX hS (j := 1) (by omega) hL (by decide +kernel : decode code 511 = .ok (.iaload, 1)) ?_
  refine zlc_V (k := 9) (ci := 6) (n := 1) (as := [zI (xs (i + 1)).toInt]) (rest := []) (A0 := zAA s) S (hmod hok) (by decide) rfl rfl zmk_70 zmi_70 zms_70 zMk_70 (by decide +kernel) rfl (by decide +kernel) (by decide +kernel) ⟨by show cells + 1 ≤ 601024; omega, by show slots + 6 ≤ 7293034; omega⟩ hl.1 (Nat.le_of_ble_eq_true rfl) (by decide +kernel : decode code 512 = .ok (.invokevirtual 112, 3)) (hX.K d) (hX.N d) hP hD hS (fun q hq => hq) (fun H2 locs2 hP hD hS hok2 hvs _ => ?_)
  exact law_tail (p0 := 515) (off := 1023) hX (by omega) (by decide +kernel : decode code 515 = .ok (.istore 6, 2)) (by decide +kernel : decode code 517 = .ok (.aload_n 2, 1)) (by decide +kernel : decode code 518 = .ok (.invokevirtual 92, 3)) (by decide +kernel : decode code 521 = .ok (.iload 5, 2)) (by decide +kernel : decode code 523 = .ok (.if_icmp .eq 5, 3)) (by decide +kernel : decode code 528 = .ok (.iload 5, 2)) (by decide +kernel : decode code 530 = .ok (.ifCond .ne 15, 3)) (by decide +kernel : decode code 533 = .ok (.aload_n 3, 1)) (by decide +kernel : decode code 534 = .ok (.iconst 0, 1)) (by decide +kernel : decode code 535 = .ok (.laload, 1)) (by decide +kernel : decode code 536 = .ok (.iload 6, 2)) (by decide +kernel : decode code 538 = .ok (.i2l, 1)) (by decide +kernel : decode code 539 = .ok (.lcmp, 1)) (by decide +kernel : decode code 540 = .ok (.ifCond .eq 5, 3)) (by decide +kernel : decode code 545 = .ok (.goto 1023, 3)) (by decide) ⟨hd, hok2, hP, hD, hS⟩ hI2 hth hk3 hf hl (by omega) (by omega) K
theorem zhl_6 : Cond.methodLink RL 113 yL_shift ∈ zWL := zwl 745 (by decide +kernel) rfl
theorem zhs_6 : Cond.static yL_shift ∈ zWL := zwl 746 (by decide +kernel) rfl
theorem zhc_6 : Cond.codeWith yL_shift cL_shift 3 (some .int) [(0, 8, 11, 19)] ∈ zWL := zwl 747 (by decide +kernel) rfl
theorem zmk_74 : Cond.methodLink RL 115 yX5_shift ∈ zWL := zwl 1061 (by decide +kernel) rfl
theorem zmi_74 : Cond.instanceMethod yX5_shift ∈ zWL := zwl 1062 (by decide +kernel) rfl
theorem zms_74 : Cond.selects RX5 yX5_shift yX5_shift ∈ zWL := zwl 1063 (by decide +kernel) rfl
theorem lc_6 {p : Program} {l : Launch} {e : Env} {s : State} {m : MethodId} {below : List Frame} {meth : Method} {c : Code} {b L : Nat} {xs : Nat → Int32} {D : va_G} {A : Nat → Nat} {cI cQ cL : ClassId} {o i : Nat} {B : Int} {Q : State → Prop} {d : Drawn} {σ : zSt} {f : Nat → Int64} {H : Heap} {locs : List Loc} {ls : Array Slot} {cells slots : Nat} (hX : zLx p s m meth c b L xs D cI cQ cL) (hfl : l.stackTraces = false) (hL : L ≤ 2048) (hi : i + 3 < L) (hB : 2000 ≤ B ∧ B ≤ 500000) (hs : zLs s D A cI cQ cL o d σ f H locs) (hI : Inv σ B) (hl : lv_has ls 9 (zLv b A o i)) (hc : cells ≤ 100 + i) (hsl : slots ≤ 4000 + 6 * i) (K : zNx p l e s m below meth c b D A cI cQ cL o i B Q) :
    W p l e room_1 (s.setDrawn d) m #[Value.ref b] below meth c H locs cells slots Q (F0 m 548 ls []) := by
  have S := hX.S d
  have hx := S.1
  have hb := S.2.1
  obtain ⟨hd, hσ, hP, hD, hS⟩ := hs
  have hl : lv_has ls 9 [(0, .ref b), (1, .ref (A 0)), (2, .ref (A 9)), (3, .ref o), (4, .int (nI i))] := hl
  refine lv_aload_n hx hb (by decide +kernel : decode code 548 = .ok (.aload_n 1, 1)) rfl (lv_at hl 1 rfl) ?_
  refine lv_aload_n hx hb (by decide +kernel : decode code 549 = .ok (.aload_n 3, 1)) rfl (lv_at hl 3 rfl) ?_
  obtain ⟨k, v, σ1, σ2, f1, hcon, hmod, hth, hf, hk3, hI2⟩ := jc_6 l hfl (f := f) hB hI hσ
  refine zlh_call (y := yL_shift) (as := []) (n := 2) (rest := []) (A0 := zAA s) S hcon zhl_6 zhs_6 zhc_6 zlw_ini ⟨by decide +kernel, by decide +kernel⟩ (by decide +kernel) rfl (by decide) ⟨by decide, by decide⟩ ⟨by show cells + 1 ≤ 601024; omega, by show slots + 6 ≤ 7293034; omega⟩ hl.1 (Nat.le_of_ble_eq_true rfl) (by decide +kernel : decode code 550 = .ok (.invokestatic 113, 3)) (hX.K d) (hX.N d) (hX.Tv d) (hX.Nc d) (hX.Ts d hS) hP hD hS (fun q hq => hq) (fun H1 locs1 hP hD hS hok => ?_)
  refine lv_istore (lv' := [(5, .int (Int32.ofInt k)), (0, .ref b), (1, .ref (A 0)), (2, .ref (A 9)), (3, .ref o), (4, .int (nI i))]) hx hb (by decide +kernel : decode code 553 = .ok (.istore 5, 2)) hl (by decide) rfl (fun ls hl => ?_)
  refine lv_aload_n hx hb (by decide +kernel : decode code 555 = .ok (.aload_n 2, 1)) rfl (lv_at hl 3 rfl) ?_
  refine zlc_V (k := 9) (ci := 6) (n := 0) (as := []) (rest := []) (A0 := zAA s) S (hmod hok) (by decide) rfl rfl zmk_74 zmi_74 zms_74 zMk_74 (by decide +kernel) rfl (by decide +kernel) (by decide +kernel) ⟨by show cells + 1 ≤ 601024; omega, by show slots + 6 ≤ 7293034; omega⟩ hl.1 (Nat.le_of_ble_eq_true rfl) (by decide +kernel : decode code 556 = .ok (.invokevirtual 115, 3)) (hX.K d) (hX.N d) hP hD hS (fun q hq => hq) (fun H2 locs2 hP hD hS hok2 hvs _ => ?_)
  exact law_tail (p0 := 559) (off := 979) hX (by omega) (by decide +kernel : decode code 559 = .ok (.istore 6, 2)) (by decide +kernel : decode code 561 = .ok (.aload_n 2, 1)) (by decide +kernel : decode code 562 = .ok (.invokevirtual 92, 3)) (by decide +kernel : decode code 565 = .ok (.iload 5, 2)) (by decide +kernel : decode code 567 = .ok (.if_icmp .eq 5, 3)) (by decide +kernel : decode code 572 = .ok (.iload 5, 2)) (by decide +kernel : decode code 574 = .ok (.ifCond .ne 15, 3)) (by decide +kernel : decode code 577 = .ok (.aload_n 3, 1)) (by decide +kernel : decode code 578 = .ok (.iconst 0, 1)) (by decide +kernel : decode code 579 = .ok (.laload, 1)) (by decide +kernel : decode code 580 = .ok (.iload 6, 2)) (by decide +kernel : decode code 582 = .ok (.i2l, 1)) (by decide +kernel : decode code 583 = .ok (.lcmp, 1)) (by decide +kernel : decode code 584 = .ok (.ifCond .eq 5, 3)) (by decide +kernel : decode code 589 = .ok (.goto 979, 3)) (by decide) ⟨hd, hok2, hP, hD, hS⟩ hI2 hth hk3 hf hl (by omega) (by omega) K
theorem zhl_7 : Cond.methodLink RL 116 yL_replan ∈ zWL := zwl 753 (by decide +kernel) rfl
theorem zhs_7 : Cond.static yL_replan ∈ zWL := zwl 754 (by decide +kernel) rfl
theorem zhc_7 : Cond.codeWith yL_replan cL_replan 5 (some .int) [(0, 10, 13, 13), (0, 10, 17, 19)] ∈ zWL := zwl 755 (by decide +kernel) rfl
theorem zmk_77 : Cond.methodLink RL 118 yX5_replan ∈ zWL := zwl 1077 (by decide +kernel) rfl
theorem zmi_77 : Cond.instanceMethod yX5_replan ∈ zWL := zwl 1078 (by decide +kernel) rfl
theorem zms_77 : Cond.selects RX5 yX5_replan yX5_replan ∈ zWL := zwl 1079 (by decide +kernel) rfl
theorem lc_7 {p : Program} {l : Launch} {e : Env} {s : State} {m : MethodId} {below : List Frame} {meth : Method} {c : Code} {b L : Nat} {xs : Nat → Int32} {D : va_G} {A : Nat → Nat} {cI cQ cL : ClassId} {o i : Nat} {B : Int} {Q : State → Prop} {d : Drawn} {σ : zSt} {f : Nat → Int64} {H : Heap} {locs : List Loc} {ls : Array Slot} {cells slots : Nat} (hX : zLx p s m meth c b L xs D cI cQ cL) (hfl : l.stackTraces = false) (hL : L ≤ 2048) (hi : i + 3 < L) (hB : 2000 ≤ B ∧ B ≤ 500000) (hs : zLs s D A cI cQ cL o d σ f H locs) (hI : Inv σ B) (hl : lv_has ls 9 (zLv b A o i)) (hc : cells ≤ 100 + i) (hsl : slots ≤ 4000 + 6 * i) (K : zNx p l e s m below meth c b D A cI cQ cL o i B Q) :
    W p l e room_1 (s.setDrawn d) m #[Value.ref b] below meth c H locs cells slots Q (F0 m 592 ls []) := by
  have S := hX.S d
  have hx := S.1
  have hb := S.2.1
  obtain ⟨hd, hσ, hP, hD, hS⟩ := hs
  have hl : lv_has ls 9 [(0, .ref b), (1, .ref (A 0)), (2, .ref (A 9)), (3, .ref o), (4, .int (nI i))] := hl
  refine lv_aload_n hx hb (by decide +kernel : decode code 592 = .ok (.aload_n 1, 1)) rfl (lv_at hl 1 rfl) ?_
  refine lv_aload_n hx hb (by decide +kernel : decode code 593 = .ok (.aload_n 0, 1)) rfl (lv_at hl 0 rfl) ?_
  refine lv_iload hx hb (by decide +kernel : decode code 594 = .ok (.iload 4, 2)) (lv_at hl 4 rfl) ?_
  refine lv_iconst (v := nI 1) hx hb (by decide +kernel : decode code 596 = .ok (.iconst 1, 1)) (by decide) ?_
  refine lv_iadd hx hb (by decide +kernel : decode code 597 = .ok (.iadd, 1)) ?_
  refine zlsld hX hS (j := 1) (by omega) hL (by decide +kernel : decode code 598 = .ok (.iaload, 1)) ?_
  refine lv_aload_n hx hb (by decide +kernel : decode code 599 = .ok (.aload_n 0, 1)) rfl (lv_at hl 0 rfl) ?_
  refine lv_iload hx hb (by decide +kernel : decode code 600 = .ok (.iload 4, 2)) (lv_at hl 4 rfl) ?_
  refine lv_iconst (v := nI 2) hx hb (by decide +kernel : decode code 602 = .ok (.iconst 2, 1)) (by decide) ?_
  refine lv_iadd hx hb (by decide +kernel : decode code 603 = .ok (.iadd, 1)) ?_
  refine zlsld hX hS (j := 2) (by omega) hL (by decide +kernel : decode code 604 = .ok (.iaload, 1)) ?_
  refine lv_aload_n hx hb (by decide +kernel : decode code 605 = .ok (.aload_n 3, 1)) rfl (lv_at hl 3 rfl) ?_
  obtain ⟨k, v, σ1, σ2, f1, hcon, hmod, hth, hf, hk3, hI2⟩ := jc_7 l hfl (f := f) hB hI hσ (zxr (xs (i + 1))) (zxr (xs (i + 2)))
  refine zlh_call (y := yL_replan) (as := [zI (xs (i + 1)).toInt, zI (xs (i + 2)).toInt]) (n := 4) (rest := []) (A0 := zAA s) S hcon zhl_7 zhs_7 zhc_7 zlw_ini ⟨by decide +kernel, by decide +kernel⟩ (by decide +kernel) rfl (by decide) ⟨by decide, by decide⟩ ⟨by show cells + 1 ≤ 601024; omega, by show slots + 6 ≤ 7293034; omega⟩ hl.1 (Nat.le_of_ble_eq_true rfl) (by decide +kernel : decode code 606 = .ok (.invokestatic 116, 3)) (hX.K d) (hX.N d) (hX.Tv d) (hX.Nc d) (hX.Ts d hS) hP hD hS (fun q hq => hq) (fun H1 locs1 hP hD hS hok => ?_)
  refine lv_istore (lv' := [(5, .int (Int32.ofInt k)), (0, .ref b), (1, .ref (A 0)), (2, .ref (A 9)), (3, .ref o), (4, .int (nI i))]) hx hb (by decide +kernel : decode code 609 = .ok (.istore 5, 2)) hl (by decide) rfl (fun ls hl => ?_)
  refine lv_aload_n hx hb (by decide +kernel : decode code 611 = .ok (.aload_n 2, 1)) rfl (lv_at hl 3 rfl) ?_
  refine lv_aload_n hx hb (by decide +kernel : decode code 612 = .ok (.aload_n 0, 1)) rfl (lv_at hl 1 rfl) ?_
  refine lv_iload hx hb (by decide +kernel : decode code 613 = .ok (.iload 4, 2)) (lv_at hl 5 rfl) ?_
  refine lv_iconst (v := nI 1) hx hb (by decide +kernel : decode code 615 = .ok (.iconst 1, 1)) (by decide) ?_
  refine lv_iadd hx hb (by decide +kernel : decode code 616 = .ok (.iadd, 1)) ?_
  refine zlsld hX hS (j := 1) (by omega) hL (by decide +kernel : decode code 617 = .ok (.iaload, 1)) ?_
  refine lv_aload_n hx hb (by decide +kernel : decode code 618 = .ok (.aload_n 0, 1)) rfl (lv_at hl 1 rfl) ?_
  refine lv_iload hx hb (by decide +kernel : decode code 619 = .ok (.iload 4, 2)) (lv_at hl 5 rfl) ?_
  refine lv_iconst (v := nI 2) hx hb (by decide +kernel : decode code 621 = .ok (.iconst 2, 1)) (by decide) ?_
  refine lv_iadd hx hb (by decide +kernel : decode code 622 = .ok (.iadd, 1)) ?_
  refine zlsld hX hS (j := 2) (by omega) hL (by decide +kernel : decode code 623 = .ok (.iaload, 1)) ?_
  refine zlc_V (k := 9) (ci := 6) (n := 2) (as := [zI (xs (i + 1)).toInt, zI (xs (i + 2)).toInt]) (rest := []) (A0 := zAA s) S (hmod hok) (by decide) rfl rfl zmk_77 zmi_77 zms_77 zMk_77 (by decide +kernel) rfl (by decide +kernel) (by decide +kernel) ⟨by show cells + 1 ≤ 601024; omega, by show slots + 6 ≤ 7293034; omega⟩ hl.1 (Nat.le_of_ble_eq_true rfl) (by decide +kernel : decode code 624 = .ok (.invokevirtual 118, 3)) (hX.K d) (hX.N d) hP hD hS (fun q hq => hq) (fun H2 locs2 hP hD hS hok2 hvs _ => ?_)
  exact law_tail (p0 := 627) (off := 911) hX (by omega) (by decide +kernel : decode code 627 = .ok (.istore 6, 2)) (by decide +kernel : decode code 629 = .ok (.aload_n 2, 1)) (by decide +kernel : decode code 630 = .ok (.invokevirtual 92, 3)) (by decide +kernel : decode code 633 = .ok (.iload 5, 2)) (by decide +kernel : decode code 635 = .ok (.if_icmp .eq 5, 3)) (by decide +kernel : decode code 640 = .ok (.iload 5, 2)) (by decide +kernel : decode code 642 = .ok (.ifCond .ne 15, 3)) (by decide +kernel : decode code 645 = .ok (.aload_n 3, 1)) (by decide +kernel : decode code 646 = .ok (.iconst 0, 1)) (by decide +kernel : decode code 647 = .ok (.laload, 1)) (by decide +kernel : decode code 648 = .ok (.iload 6, 2)) (by decide +kernel : decode code 650 = .ok (.i2l, 1)) (by decide +kernel : decode code 651 = .ok (.lcmp, 1)) (by decide +kernel : decode code 652 = .ok (.ifCond .eq 5, 3)) (by decide +kernel : decode code 657 = .ok (.goto 911, 3)) (by decide) ⟨hd, hok2, hP, hD, hS⟩ hI2 hth hk3 hf hl (by omega) (by omega) K
theorem zhl_8 : Cond.methodLink RL 119 yL_accept ∈ zWL := zwl 770 (by decide +kernel) rfl
theorem zhs_8 : Cond.static yL_accept ∈ zWL := zwl 771 (by decide +kernel) rfl
theorem zhc_8 : Cond.codeWith yL_accept cL_accept 3 (some .int) [(0, 8, 11, 19)] ∈ zWL := zwl 772 (by decide +kernel) rfl
theorem zmk_78 : Cond.methodLink RL 121 yX5_accept ∈ zWL := zwl 1088 (by decide +kernel) rfl
theorem zmi_78 : Cond.instanceMethod yX5_accept ∈ zWL := zwl 1089 (by decide +kernel) rfl
theorem zms_78 : Cond.selects RX5 yX5_accept yX5_accept ∈ zWL := zwl 1090 (by decide +kernel) rfl
theorem lc_8 {p : Program} {l : Launch} {e : Env} {s : State} {m : MethodId} {below : List Frame} {meth : Method} {c : Code} {b L : Nat} {xs : Nat → Int32} {D : va_G} {A : Nat → Nat} {cI cQ cL : ClassId} {o i : Nat} {B : Int} {Q : State → Prop} {d : Drawn} {σ : zSt} {f : Nat → Int64} {H : Heap} {locs : List Loc} {ls : Array Slot} {cells slots : Nat} (hX : zLx p s m meth c b L xs D cI cQ cL) (hfl : l.stackTraces = false) (hL : L ≤ 2048) (hi : i + 3 < L) (hB : 2000 ≤ B ∧ B ≤ 500000) (hs : zLs s D A cI cQ cL o d σ f H locs) (hI : Inv σ B) (hl : lv_has ls 9 (zLv b A o i)) (hc : cells ≤ 100 + i) (hsl : slots ≤ 4000 + 6 * i) (K : zNx p l e s m below meth c b D A cI cQ cL o i B Q) :
    W p l e room_1 (s.setDrawn d) m #[Value.ref b] below meth c H locs cells slots Q (F0 m 660 ls []) := by
  have S := hX.S d
  have hx := S.1
  have hb := S.2.1
  obtain ⟨hd, hσ, hP, hD, hS⟩ := hs
  have hl : lv_has ls 9 [(0, .ref b), (1, .ref (A 0)), (2, .ref (A 9)), (3, .ref o), (4, .int (nI i))] := hl
  refine lv_aload_n hx hb (by decide +kernel : decode code 660 = .ok (.aload_n 1, 1)) rfl (lv_at hl 1 rfl) ?_
  refine lv_aload_n hx hb (by decide +kernel : decode code 661 = .ok (.aload_n 3, 1)) rfl (lv_at hl 3 rfl) ?_
  obtain ⟨k, v, σ1, σ2, f1, hcon, hmod, hth, hf, hk3, hI2⟩ := jc_8 l hfl (f := f) hB hI hσ
  refine zlh_call (y := yL_accept) (as := []) (n := 2) (rest := []) (A0 := zAA s) S hcon zhl_8 zhs_8 zhc_8 zlw_ini ⟨by decide +kernel, by decide +kernel⟩ (by decide +kernel) rfl (by decide) ⟨by decide, by decide⟩ ⟨by show cells + 1 ≤ 601024; omega, by show slots + 6 ≤ 7293034; omega⟩ hl.1 (Nat.le_of_ble_eq_true rfl) (by decide +kernel : decode code 662 = .ok (.invokestatic 119, 3)) (hX.K d) (hX.N d) (hX.Tv d) (hX.Nc d) (hX.Ts d hS) hP hD hS (fun q hq => hq) (fun H1 locs1 hP hD hS hok => ?_)
  refine lv_istore (lv' := [(5, .int (Int32.ofInt k)), (0, .ref b), (1, .ref (A 0)), (2, .ref (A 9)), (3, .ref o), (4, .int (nI i))]) hx hb (by decide +kernel : decode code 665 = .ok (.istore 5, 2)) hl (by decide) rfl (fun ls hl => ?_)
  refine lv_aload_n hx hb (by decide +kernel : decode code 667 = .ok (.aload_n 2, 1)) rfl (lv_at hl 3 rfl) ?_
  refine zlc_V (k := 9) (ci := 6) (n := 0) (as := []) (rest := []) (A0 := zAA s) S (hmod hok) (by decide) rfl rfl zmk_78 zmi_78 zms_78 zMk_78 (by decide +kernel) rfl (by decide +kernel) (by decide +kernel) ⟨by show cells + 1 ≤ 601024; omega, by show slots + 6 ≤ 7293034; omega⟩ hl.1 (Nat.le_of_ble_eq_true rfl) (by decide +kernel : decode code 668 = .ok (.invokevirtual 121, 3)) (hX.K d) (hX.N d) hP hD hS (fun q hq => hq) (fun H2 locs2 hP hD hS hok2 hvs _ => ?_)
  exact law_tail (p0 := 671) (off := 867) hX (by omega) (by decide +kernel : decode code 671 = .ok (.istore 6, 2)) (by decide +kernel : decode code 673 = .ok (.aload_n 2, 1)) (by decide +kernel : decode code 674 = .ok (.invokevirtual 92, 3)) (by decide +kernel : decode code 677 = .ok (.iload 5, 2)) (by decide +kernel : decode code 679 = .ok (.if_icmp .eq 5, 3)) (by decide +kernel : decode code 684 = .ok (.iload 5, 2)) (by decide +kernel : decode code 686 = .ok (.ifCond .ne 15, 3)) (by decide +kernel : decode code 689 = .ok (.aload_n 3, 1)) (by decide +kernel : decode code 690 = .ok (.iconst 0, 1)) (by decide +kernel : decode code 691 = .ok (.laload, 1)) (by decide +kernel : decode code 692 = .ok (.iload 6, 2)) (by decide +kernel : decode code 694 = .ok (.i2l, 1)) (by decide +kernel : decode code 695 = .ok (.lcmp, 1)) (by decide +kernel : decode code 696 = .ok (.ifCond .eq 5, 3)) (by decide +kernel : decode code 701 = .ok (.goto 867, 3)) (by decide) ⟨hd, hok2, hP, hD, hS⟩ hI2 hth hk3 hf hl (by omega) (by omega) K
theorem zhl_9 : Cond.methodLink RL 122 yL_bargain ∈ zWL := zwl 781 (by decide +kernel) rfl
theorem zhs_9 : Cond.static yL_bargain ∈ zWL := zwl 782 (by decide +kernel) rfl
theorem zhc_9 : Cond.codeWith yL_bargain cL_bargain 5 (some .int) [(0, 10, 13, 25), (0, 10, 17, 13), (0, 10, 21, 19)] ∈ zWL := zwl 783 (by decide +kernel) rfl
theorem zmk_79 : Cond.methodLink RL 124 yX5_bargain ∈ zWL := zwl 1092 (by decide +kernel) rfl
theorem zmi_79 : Cond.instanceMethod yX5_bargain ∈ zWL := zwl 1093 (by decide +kernel) rfl
theorem zms_79 : Cond.selects RX5 yX5_bargain yX5_bargain ∈ zWL := zwl 1094 (by decide +kernel) rfl
theorem lc_9 {p : Program} {l : Launch} {e : Env} {s : State} {m : MethodId} {below : List Frame} {meth : Method} {c : Code} {b L : Nat} {xs : Nat → Int32} {D : va_G} {A : Nat → Nat} {cI cQ cL : ClassId} {o i : Nat} {B : Int} {Q : State → Prop} {d : Drawn} {σ : zSt} {f : Nat → Int64} {H : Heap} {locs : List Loc} {ls : Array Slot} {cells slots : Nat} (hX : zLx p s m meth c b L xs D cI cQ cL) (hfl : l.stackTraces = false) (hL : L ≤ 2048) (hi : i + 3 < L) (hB : 2000 ≤ B ∧ B ≤ 500000) (hs : zLs s D A cI cQ cL o d σ f H locs) (hI : Inv σ B) (hl : lv_has ls 9 (zLv b A o i)) (hc : cells ≤ 100 + i) (hsl : slots ≤ 4000 + 6 * i) (K : zNx p l e s m below meth c b D A cI cQ cL o i B Q) :
    W p l e room_1 (s.setDrawn d) m #[Value.ref b] below meth c H locs cells slots Q (F0 m 704 ls []) := by
  have S := hX.S d
  have hx := S.1
  have hb := S.2.1
  obtain ⟨hd, hσ, hP, hD, hS⟩ := hs
  have hl : lv_has ls 9 [(0, .ref b), (1, .ref (A 0)), (2, .ref (A 9)), (3, .ref o), (4, .int (nI i))] := hl
  refine lv_aload_n hx hb (by decide +kernel : decode code 704 = .ok (.aload_n 1, 1)) rfl (lv_at hl 1 rfl) ?_
  refine lv_aload_n hx hb (by decide +kernel : decode code 705 = .ok (.aload_n 0, 1)) rfl (lv_at hl 0 rfl) ?_
  refine lv_iload hx hb (by decide +kernel : decode code 706 = .ok (.iload 4, 2)) (lv_at hl 4 rfl) ?_
  refine lv_iconst (v := nI 1) hx hb (by decide +kernel : decode code 708 = .ok (.iconst 1, 1)) (by decide) ?_
  refine lv_iadd hx hb (by decide +kernel : decode code 709 = .ok (.iadd, 1)) ?_
  refine zlsld hX hS (j := 1) (by omega) hL (by decide +kernel : decode code 710 = .ok (.iaload, 1)) ?_
  refine lv_aload_n hx hb (by decide +kernel : decode code 711 = .ok (.aload_n 0, 1)) rfl (lv_at hl 0 rfl) ?_
  refine lv_iload hx hb (by decide +kernel : decode code 712 = .ok (.iload 4, 2)) (lv_at hl 4 rfl) ?_
  refine lv_iconst (v := nI 2) hx hb (by decide +kernel : decode code 714 = .ok (.iconst 2, 1)) (by decide) ?_
  refine lv_iadd hx hb (by decide +kernel : decode code 715 = .ok (.iadd, 1)) ?_
  refine zlsld hX hS (j := 2) (by omega) hL (by decide +kernel : decode code 716 = .ok (.iaload, 1)) ?_
  refine lv_aload_n hx hb (by decide +kernel : decode code 717 = .ok (.aload_n 3, 1)) rfl (lv_at hl 3 rfl) ?_
  obtain ⟨k, v, σ1, σ2, f1, hcon, hmod, hth, hf, hk3, hI2⟩ := jc_9 l hfl (f := f) hB hI hσ (zxr (xs (i + 1))) (zxr (xs (i + 2)))
  refine zlh_call (y := yL_bargain) (as := [zI (xs (i + 1)).toInt, zI (xs (i + 2)).toInt]) (n := 4) (rest := []) (A0 := zAA s) S hcon zhl_9 zhs_9 zhc_9 zlw_ini ⟨by decide +kernel, by decide +kernel⟩ (by decide +kernel) rfl (by decide) ⟨by decide, by decide⟩ ⟨by show cells + 1 ≤ 601024; omega, by show slots + 6 ≤ 7293034; omega⟩ hl.1 (Nat.le_of_ble_eq_true rfl) (by decide +kernel : decode code 718 = .ok (.invokestatic 122, 3)) (hX.K d) (hX.N d) (hX.Tv d) (hX.Nc d) (hX.Ts d hS) hP hD hS (fun q hq => hq) (fun H1 locs1 hP hD hS hok => ?_)
  refine lv_istore (lv' := [(5, .int (Int32.ofInt k)), (0, .ref b), (1, .ref (A 0)), (2, .ref (A 9)), (3, .ref o), (4, .int (nI i))]) hx hb (by decide +kernel : decode code 721 = .ok (.istore 5, 2)) hl (by decide) rfl (fun ls hl => ?_)
  refine lv_aload_n hx hb (by decide +kernel : decode code 723 = .ok (.aload_n 2, 1)) rfl (lv_at hl 3 rfl) ?_
  refine lv_aload_n hx hb (by decide +kernel : decode code 724 = .ok (.aload_n 0, 1)) rfl (lv_at hl 1 rfl) ?_
  refine lv_iload hx hb (by decide +kernel : decode code 725 = .ok (.iload 4, 2)) (lv_at hl 5 rfl) ?_
  refine lv_iconst (v := nI 1) hx hb (by decide +kernel : decode code 727 = .ok (.iconst 1, 1)) (by decide) ?_
  refine lv_iadd hx hb (by decide +kernel : decode code 728 = .ok (.iadd, 1)) ?_
  refine zlsld hX hS (j := 1) (by omega) hL (by decide +kernel : decode code 729 = .ok (.iaload, 1)) ?_
  refine lv_aload_n hx hb (by decide +kernel : decode code 730 = .ok (.aload_n 0, 1)) rfl (lv_at hl 1 rfl) ?_
  refine lv_iload hx hb (by decide +kernel : decode code 731 = .ok (.iload 4, 2)) (lv_at hl 5 rfl) ?_
  refine lv_iconst (v := nI 2) hx hb (by decide +kernel : decode code 733 = .ok (.iconst 2, 1)) (by decide) ?_
  refine lv_iadd hx hb (by decide +kernel : decode code 734 = .ok (.iadd, 1)) ?_
  refine zlsld hX hS (j := 2) (by omega) hL (by decide +kernel : decode code 735 = .ok (.iaload, 1)) ?_
  refine zlc_V (k := 9) (ci := 6) (n := 2) (as := [zI (xs (i + 1)).toInt, zI (xs (i + 2)).toInt]) (rest := []) (A0 := zAA s) S (hmod hok) (by decide) rfl rfl zmk_79 zmi_79 zms_79 zMk_79 (by decide +kernel) rfl (by decide +kernel) (by decide +kernel) ⟨by show cells + 1 ≤ 601024; omega, by show slots + 6 ≤ 7293034; omega⟩ hl.1 (Nat.le_of_ble_eq_true rfl) (by decide +kernel : decode code 736 = .ok (.invokevirtual 124, 3)) (hX.K d) (hX.N d) hP hD hS (fun q hq => hq) (fun H2 locs2 hP hD hS hok2 hvs _ => ?_)
  exact law_tail (p0 := 739) (off := 799) hX (by omega) (by decide +kernel : decode code 739 = .ok (.istore 6, 2)) (by decide +kernel : decode code 741 = .ok (.aload_n 2, 1)) (by decide +kernel : decode code 742 = .ok (.invokevirtual 92, 3)) (by decide +kernel : decode code 745 = .ok (.iload 5, 2)) (by decide +kernel : decode code 747 = .ok (.if_icmp .eq 5, 3)) (by decide +kernel : decode code 752 = .ok (.iload 5, 2)) (by decide +kernel : decode code 754 = .ok (.ifCond .ne 15, 3)) (by decide +kernel : decode code 757 = .ok (.aload_n 3, 1)) (by decide +kernel : decode code 758 = .ok (.iconst 0, 1)) (by decide +kernel : decode code 759 = .ok (.laload, 1)) (by decide +kernel : decode code 760 = .ok (.iload 6, 2)) (by decide +kernel : decode code 762 = .ok (.i2l, 1)) (by decide +kernel : decode code 763 = .ok (.lcmp, 1)) (by decide +kernel : decode code 764 = .ok (.ifCond .eq 5, 3)) (by decide +kernel : decode code 769 = .ok (.goto 799, 3)) (by decide) ⟨hd, hok2, hP, hD, hS⟩ hI2 hth hk3 hf hl (by omega) (by omega) K
theorem zhl_10 : Cond.methodLink RL 125 yL_overtime ∈ zWL := zwl 790 (by decide +kernel) rfl
theorem zhs_10 : Cond.static yL_overtime ∈ zWL := zwl 791 (by decide +kernel) rfl
theorem zhc_10 : Cond.codeWith yL_overtime cL_overtime 5 (some .int) [(0, 10, 13, 25), (0, 10, 17, 19)] ∈ zWL := zwl 792 (by decide +kernel) rfl
theorem zmk_80 : Cond.methodLink RL 127 yX5_overtime ∈ zWL := zwl 1096 (by decide +kernel) rfl
theorem zmi_80 : Cond.instanceMethod yX5_overtime ∈ zWL := zwl 1097 (by decide +kernel) rfl
theorem zms_80 : Cond.selects RX5 yX5_overtime yX5_overtime ∈ zWL := zwl 1098 (by decide +kernel) rfl
theorem lc_10 {p : Program} {l : Launch} {e : Env} {s : State} {m : MethodId} {below : List Frame} {meth : Method} {c : Code} {b L : Nat} {xs : Nat → Int32} {D : va_G} {A : Nat → Nat} {cI cQ cL : ClassId} {o i : Nat} {B : Int} {Q : State → Prop} {d : Drawn} {σ : zSt} {f : Nat → Int64} {H : Heap} {locs : List Loc} {ls : Array Slot} {cells slots : Nat} (hX : zLx p s m meth c b L xs D cI cQ cL) (hfl : l.stackTraces = false) (hL : L ≤ 2048) (hi : i + 3 < L) (hB : 2000 ≤ B ∧ B ≤ 500000) (hs : zLs s D A cI cQ cL o d σ f H locs) (hI : Inv σ B) (hl : lv_has ls 9 (zLv b A o i)) (hc : cells ≤ 100 + i) (hsl : slots ≤ 4000 + 6 * i) (K : zNx p l e s m below meth c b D A cI cQ cL o i B Q) :
    W p l e room_1 (s.setDrawn d) m #[Value.ref b] below meth c H locs cells slots Q (F0 m 772 ls []) := by
  have S := hX.S d
  have hx := S.1
  have hb := S.2.1
  obtain ⟨hd, hσ, hP, hD, hS⟩ := hs
  have hl : lv_has ls 9 [(0, .ref b), (1, .ref (A 0)), (2, .ref (A 9)), (3, .ref o), (4, .int (nI i))] := hl
  refine lv_aload_n hx hb (by decide +kernel : decode code 772 = .ok (.aload_n 1, 1)) rfl (lv_at hl 1 rfl) ?_
  refine lv_aload_n hx hb (by decide +kernel : decode code 773 = .ok (.aload_n 0, 1)) rfl (lv_at hl 0 rfl) ?_
  refine lv_iload hx hb (by decide +kernel : decode code 774 = .ok (.iload 4, 2)) (lv_at hl 4 rfl) ?_
  refine lv_iconst (v := nI 1) hx hb (by decide +kernel : decode code 776 = .ok (.iconst 1, 1)) (by decide) ?_
  refine lv_iadd hx hb (by decide +kernel : decode code 777 = .ok (.iadd, 1)) ?_
  refine zlsld hX hS (j := 1) (by omega) hL (by decide +kernel : decode code 778 = .ok (.iaload, 1)) ?_
  refine lv_aload_n hx hb (by decide +kernel : decode code 779 = .ok (.aload_n 0, 1)) rfl (lv_at hl 0 rfl) ?_
  refine lv_iload hx hb (by decide +kernel : decode code 780 = .ok (.iload 4, 2)) (lv_at hl 4 rfl) ?_
  refine lv_iconst (v := nI 2) hx hb (by decide +kernel : decode code 782 = .ok (.iconst 2, 1)) (by decide) ?_
  refine lv_iadd hx hb (by decide +kernel : decode code 783 = .ok (.iadd, 1)) ?_
  refine zlsld hX hS (j := 2) (by omega) hL (by decide +kernel : decode code 784 = .ok (.iaload, 1)) ?_
  refine lv_aload_n hx hb (by decide +kernel : decode code 785 = .ok (.aload_n 3, 1)) rfl (lv_at hl 3 rfl) ?_
  obtain ⟨k, v, σ1, σ2, f1, hcon, hmod, hth, hf, hk3, hI2⟩ := jc_10 l hfl (f := f) hB hI hσ (zxr (xs (i + 1))) (zxr (xs (i + 2)))
  refine zlh_call (y := yL_overtime) (as := [zI (xs (i + 1)).toInt, zI (xs (i + 2)).toInt]) (n := 4) (rest := []) (A0 := zAA s) S hcon zhl_10 zhs_10 zhc_10 zlw_ini ⟨by decide +kernel, by decide +kernel⟩ (by decide +kernel) rfl (by decide) ⟨by decide, by decide⟩ ⟨by show cells + 1 ≤ 601024; omega, by show slots + 6 ≤ 7293034; omega⟩ hl.1 (Nat.le_of_ble_eq_true rfl) (by decide +kernel : decode code 786 = .ok (.invokestatic 125, 3)) (hX.K d) (hX.N d) (hX.Tv d) (hX.Nc d) (hX.Ts d hS) hP hD hS (fun q hq => hq) (fun H1 locs1 hP hD hS hok => ?_)
  refine lv_istore (lv' := [(5, .int (Int32.ofInt k)), (0, .ref b), (1, .ref (A 0)), (2, .ref (A 9)), (3, .ref o), (4, .int (nI i))]) hx hb (by decide +kernel : decode code 789 = .ok (.istore 5, 2)) hl (by decide) rfl (fun ls hl => ?_)
  refine lv_aload_n hx hb (by decide +kernel : decode code 791 = .ok (.aload_n 2, 1)) rfl (lv_at hl 3 rfl) ?_
  refine lv_aload_n hx hb (by decide +kernel : decode code 792 = .ok (.aload_n 0, 1)) rfl (lv_at hl 1 rfl) ?_
  refine lv_iload hx hb (by decide +kernel : decode code 793 = .ok (.iload 4, 2)) (lv_at hl 5 rfl) ?_
  refine lv_iconst (v := nI 1) hx hb (by decide +kernel : decode code 795 = .ok (.iconst 1, 1)) (by decide) ?_
  refine lv_iadd hx hb (by decide +kernel : decode code 796 = .ok (.iadd, 1)) ?_
  refine zlsld hX hS (j := 1) (by omega) hL (by decide +kernel : decode code 797 = .ok (.iaload, 1)) ?_
  refine lv_aload_n hx hb (by decide +kernel : decode code 798 = .ok (.aload_n 0, 1)) rfl (lv_at hl 1 rfl) ?_
  refine lv_iload hx hb (by decide +kernel : decode code 799 = .ok (.iload 4, 2)) (lv_at hl 5 rfl) ?_
  refine lv_iconst (v := nI 2) hx hb (by decide +kernel : decode code 801 = .ok (.iconst 2, 1)) (by decide) ?_
  refine lv_iadd hx hb (by decide +kernel : decode code 802 = .ok (.iadd, 1)) ?_
  refine zlsld hX hS (j := 2) (by omega) hL (by decide +kernel : decode code 803 = .ok (.iaload, 1)) ?_
  refine zlc_V (k := 9) (ci := 6) (n := 2) (as := [zI (xs (i + 1)).toInt, zI (xs (i + 2)).toInt]) (rest := []) (A0 := zAA s) S (hmod hok) (by decide) rfl rfl zmk_80 zmi_80 zms_80 zMk_80 (by decide +kernel) rfl (by decide +kernel) (by decide +kernel) ⟨by show cells + 1 ≤ 601024; omega, by show slots + 6 ≤ 7293034; omega⟩ hl.1 (Nat.le_of_ble_eq_true rfl) (by decide +kernel : decode code 804 = .ok (.invokevirtual 127, 3)) (hX.K d) (hX.N d) hP hD hS (fun q hq => hq) (fun H2 locs2 hP hD hS hok2 hvs _ => ?_)
  exact law_tail (p0 := 807) (off := 731) hX (by omega) (by decide +kernel : decode code 807 = .ok (.istore 6, 2)) (by decide +kernel : decode code 809 = .ok (.aload_n 2, 1)) (by decide +kernel : decode code 810 = .ok (.invokevirtual 92, 3)) (by decide +kernel : decode code 813 = .ok (.iload 5, 2)) (by decide +kernel : decode code 815 = .ok (.if_icmp .eq 5, 3)) (by decide +kernel : decode code 820 = .ok (.iload 5, 2)) (by decide +kernel : decode code 822 = .ok (.ifCond .ne 15, 3)) (by decide +kernel : decode code 825 = .ok (.aload_n 3, 1)) (by decide +kernel : decode code 826 = .ok (.iconst 0, 1)) (by decide +kernel : decode code 827 = .ok (.laload, 1)) (by decide +kernel : decode code 828 = .ok (.iload 6, 2)) (by decide +kernel : decode code 830 = .ok (.i2l, 1)) (by decide +kernel : decode code 831 = .ok (.lcmp, 1)) (by decide +kernel : decode code 832 = .ok (.ifCond .eq 5, 3)) (by decide +kernel : decode code 837 = .ok (.goto 731, 3)) (by decide) ⟨hd, hok2, hP, hD, hS⟩ hI2 hth hk3 hf hl (by omega) (by omega) K
theorem zhl_11 : Cond.methodLink RL 128 yL_job ∈ zWL := zwl 798 (by decide +kernel) rfl
theorem zhs_11 : Cond.static yL_job ∈ zWL := zwl 799 (by decide +kernel) rfl
theorem zhc_11 : Cond.codeWith yL_job cL_job 5 (some .int) [(0, 10, 13, 25), (0, 10, 17, 13)] ∈ zWL := zwl 800 (by decide +kernel) rfl
theorem zmk_82 : Cond.methodLink RL 130 yX5_job ∈ zWL := zwl 1104 (by decide +kernel) rfl
theorem zmi_82 : Cond.instanceMethod yX5_job ∈ zWL := zwl 1105 (by decide +kernel) rfl
theorem zms_82 : Cond.selects RX5 yX5_job yX5_job ∈ zWL := zwl 1106 (by decide +kernel) rfl
theorem lc_11 {p : Program} {l : Launch} {e : Env} {s : State} {m : MethodId} {below : List Frame} {meth : Method} {c : Code} {b L : Nat} {xs : Nat → Int32} {D : va_G} {A : Nat → Nat} {cI cQ cL : ClassId} {o i : Nat} {B : Int} {Q : State → Prop} {d : Drawn} {σ : zSt} {f : Nat → Int64} {H : Heap} {locs : List Loc} {ls : Array Slot} {cells slots : Nat} (hX : zLx p s m meth c b L xs D cI cQ cL) (hfl : l.stackTraces = false) (hL : L ≤ 2048) (hi : i + 3 < L) (hB : 2000 ≤ B ∧ B ≤ 500000) (hs : zLs s D A cI cQ cL o d σ f H locs) (hI : Inv σ B) (hl : lv_has ls 9 (zLv b A o i)) (hc : cells ≤ 100 + i) (hsl : slots ≤ 4000 + 6 * i) (K : zNx p l e s m below meth c b D A cI cQ cL o i B Q) :
    W p l e room_1 (s.setDrawn d) m #[Value.ref b] below meth c H locs cells slots Q (F0 m 840 ls []) := by
  have S := hX.S d
  have hx := S.1
  have hb := S.2.1
  obtain ⟨hd, hσ, hP, hD, hS⟩ := hs
  have hl : lv_has ls 9 [(0, .ref b), (1, .ref (A 0)), (2, .ref (A 9)), (3, .ref o), (4, .int (nI i))] := hl
  refine lv_aload_n hx hb (by decide +kernel : decode code 840 = .ok (.aload_n 1, 1)) rfl (lv_at hl 1 rfl) ?_
  refine lv_aload_n hx hb (by decide +kernel : decode code 841 = .ok (.aload_n 0, 1)) rfl (lv_at hl 0 rfl) ?_
  refine lv_iload hx hb (by decide +kernel : decode code 842 = .ok (.iload 4, 2)) (lv_at hl 4 rfl) ?_
  refine lv_iconst (v := nI 1) hx hb (by decide +kernel : decode code 844 = .ok (.iconst 1, 1)) (by decide) ?_
  refine lv_iadd hx hb (by decide +kernel : decode code 845 = .ok (.iadd, 1)) ?_
  refine zlsld hX hS (j := 1) (by omega) hL (by decide +kernel : decode code 846 = .ok (.iaload, 1)) ?_
  refine lv_aload_n hx hb (by decide +kernel : decode code 847 = .ok (.aload_n 0, 1)) rfl (lv_at hl 0 rfl) ?_
  refine lv_iload hx hb (by decide +kernel : decode code 848 = .ok (.iload 4, 2)) (lv_at hl 4 rfl) ?_
  refine lv_iconst (v := nI 2) hx hb (by decide +kernel : decode code 850 = .ok (.iconst 2, 1)) (by decide) ?_
  refine lv_iadd hx hb (by decide +kernel : decode code 851 = .ok (.iadd, 1)) ?_
  refine zlsld hX hS (j := 2) (by omega) hL (by decide +kernel : decode code 852 = .ok (.iaload, 1)) ?_
  refine lv_aload_n hx hb (by decide +kernel : decode code 853 = .ok (.aload_n 3, 1)) rfl (lv_at hl 3 rfl) ?_
  obtain ⟨k, v, σ1, σ2, f1, hcon, hmod, hth, hf, hk3, hI2⟩ := jc_11 l hfl (f := f) hB hI hσ (zxr (xs (i + 1))) (zxr (xs (i + 2)))
  refine zlh_call (y := yL_job) (as := [zI (xs (i + 1)).toInt, zI (xs (i + 2)).toInt]) (n := 4) (rest := []) (A0 := zAA s) S hcon zhl_11 zhs_11 zhc_11 zlw_ini ⟨by decide +kernel, by decide +kernel⟩ (by decide +kernel) rfl (by decide) ⟨by decide, by decide⟩ ⟨by show cells + 1 ≤ 601024; omega, by show slots + 6 ≤ 7293034; omega⟩ hl.1 (Nat.le_of_ble_eq_true rfl) (by decide +kernel : decode code 854 = .ok (.invokestatic 128, 3)) (hX.K d) (hX.N d) (hX.Tv d) (hX.Nc d) (hX.Ts d hS) hP hD hS (fun q hq => hq) (fun H1 locs1 hP hD hS hok => ?_)
  refine lv_istore (lv' := [(5, .int (Int32.ofInt k)), (0, .ref b), (1, .ref (A 0)), (2, .ref (A 9)), (3, .ref o), (4, .int (nI i))]) hx hb (by decide +kernel : decode code 857 = .ok (.istore 5, 2)) hl (by decide) rfl (fun ls hl => ?_)
  refine lv_aload_n hx hb (by decide +kernel : decode code 859 = .ok (.aload_n 2, 1)) rfl (lv_at hl 3 rfl) ?_
  refine lv_aload_n hx hb (by decide +kernel : decode code 860 = .ok (.aload_n 0, 1)) rfl (lv_at hl 1 rfl) ?_
  refine lv_iload hx hb (by decide +kernel : decode code 861 = .ok (.iload 4, 2)) (lv_at hl 5 rfl) ?_
  refine lv_iconst (v := nI 1) hx hb (by decide +kernel : decode code 863 = .ok (.iconst 1, 1)) (by decide) ?_
  refine lv_iadd hx hb (by decide +kernel : decode code 864 = .ok (.iadd, 1)) ?_
  refine zlsld hX hS (j := 1) (by omega) hL (by decide +kernel : decode code 865 = .ok (.iaload, 1)) ?_
  refine lv_aload_n hx hb (by decide +kernel : decode code 866 = .ok (.aload_n 0, 1)) rfl (lv_at hl 1 rfl) ?_
  refine lv_iload hx hb (by decide +kernel : decode code 867 = .ok (.iload 4, 2)) (lv_at hl 5 rfl) ?_
  refine lv_iconst (v := nI 2) hx hb (by decide +kernel : decode code 869 = .ok (.iconst 2, 1)) (by decide) ?_
  refine lv_iadd hx hb (by decide +kernel : decode code 870 = .ok (.iadd, 1)) ?_
  refine zlsld hX hS (j := 2) (by omega) hL (by decide +kernel : decode code 871 = .ok (.iaload, 1)) ?_
  refine zlc_V (k := 9) (ci := 6) (n := 2) (as := [zI (xs (i + 1)).toInt, zI (xs (i + 2)).toInt]) (rest := []) (A0 := zAA s) S (hmod hok) (by decide) rfl rfl zmk_82 zmi_82 zms_82 zMk_82 (by decide +kernel) rfl (by decide +kernel) (by decide +kernel) ⟨by show cells + 1 ≤ 601024; omega, by show slots + 6 ≤ 7293034; omega⟩ hl.1 (Nat.le_of_ble_eq_true rfl) (by decide +kernel : decode code 872 = .ok (.invokevirtual 130, 3)) (hX.K d) (hX.N d) hP hD hS (fun q hq => hq) (fun H2 locs2 hP hD hS hok2 hvs _ => ?_)
  exact law_tail (p0 := 875) (off := 663) hX (by omega) (by decide +kernel : decode code 875 = .ok (.istore 6, 2)) (by decide +kernel : decode code 877 = .ok (.aload_n 2, 1)) (by decide +kernel : decode code 878 = .ok (.invokevirtual 92, 3)) (by decide +kernel : decode code 881 = .ok (.iload 5, 2)) (by decide +kernel : decode code 883 = .ok (.if_icmp .eq 5, 3)) (by decide +kernel : decode code 888 = .ok (.iload 5, 2)) (by decide +kernel : decode code 890 = .ok (.ifCond .ne 15, 3)) (by decide +kernel : decode code 893 = .ok (.aload_n 3, 1)) (by decide +kernel : decode code 894 = .ok (.iconst 0, 1)) (by decide +kernel : decode code 895 = .ok (.laload, 1)) (by decide +kernel : decode code 896 = .ok (.iload 6, 2)) (by decide +kernel : decode code 898 = .ok (.i2l, 1)) (by decide +kernel : decode code 899 = .ok (.lcmp, 1)) (by decide +kernel : decode code 900 = .ok (.ifCond .eq 5, 3)) (by decide +kernel : decode code 905 = .ok (.goto 663, 3)) (by decide) ⟨hd, hok2, hP, hD, hS⟩ hI2 hth hk3 hf hl (by omega) (by omega) K
theorem zhl_12 : Cond.methodLink RL 131 yL_operation ∈ zWL := zwl 802 (by decide +kernel) rfl
theorem zhs_12 : Cond.static yL_operation ∈ zWL := zwl 803 (by decide +kernel) rfl
theorem zhc_12 : Cond.codeWith yL_operation cL_operation 6 (some .int) [(0, 12, 15, 25), (0, 12, 19, 13)] ∈ zWL := zwl 804 (by decide +kernel) rfl
theorem zmk_85 : Cond.methodLink RL 133 yX5_operation ∈ zWL := zwl 1112 (by decide +kernel) rfl
theorem zmi_85 : Cond.instanceMethod yX5_operation ∈ zWL := zwl 1113 (by decide +kernel) rfl
theorem zms_85 : Cond.selects RX5 yX5_operation yX5_operation ∈ zWL := zwl 1114 (by decide +kernel) rfl
theorem lc_12 {p : Program} {l : Launch} {e : Env} {s : State} {m : MethodId} {below : List Frame} {meth : Method} {c : Code} {b L : Nat} {xs : Nat → Int32} {D : va_G} {A : Nat → Nat} {cI cQ cL : ClassId} {o i : Nat} {B : Int} {Q : State → Prop} {d : Drawn} {σ : zSt} {f : Nat → Int64} {H : Heap} {locs : List Loc} {ls : Array Slot} {cells slots : Nat} (hX : zLx p s m meth c b L xs D cI cQ cL) (hfl : l.stackTraces = false) (hL : L ≤ 2048) (hi : i + 3 < L) (hB : 2000 ≤ B ∧ B ≤ 500000) (hs : zLs s D A cI cQ cL o d σ f H locs) (hI : Inv σ B) (hl : lv_has ls 9 (zLv b A o i)) (hc : cells ≤ 100 + i) (hsl : slots ≤ 4000 + 6 * i) (K : zNx p l e s m below meth c b D A cI cQ cL o i B Q) :
    W p l e room_1 (s.setDrawn d) m #[Value.ref b] below meth c H locs cells slots Q (F0 m 908 ls []) := by
  have S := hX.S d
  have hx := S.1
  have hb := S.2.1
  obtain ⟨hd, hσ, hP, hD, hS⟩ := hs
  have hl : lv_has ls 9 [(0, .ref b), (1, .ref (A 0)), (2, .ref (A 9)), (3, .ref o), (4, .int (nI i))] := hl
  refine lv_aload_n hx hb (by decide +kernel : decode code 908 = .ok (.aload_n 1, 1)) rfl (lv_at hl 1 rfl) ?_
  refine lv_aload_n hx hb (by decide +kernel : decode code 909 = .ok (.aload_n 0, 1)) rfl (lv_at hl 0 rfl) ?_
  refine lv_iload hx hb (by decide +kernel : decode code 910 = .ok (.iload 4, 2)) (lv_at hl 4 rfl) ?_
  refine lv_iconst (v := nI 1) hx hb (by decide +kernel : decode code 912 = .ok (.iconst 1, 1)) (by decide) ?_
  refine lv_iadd hx hb (by decide +kernel : decode code 913 = .ok (.iadd, 1)) ?_
  refine zlsld hX hS (j := 1) (by omega) hL (by decide +kernel : decode code 914 = .ok (.iaload, 1)) ?_
  refine lv_aload_n hx hb (by decide +kernel : decode code 915 = .ok (.aload_n 0, 1)) rfl (lv_at hl 0 rfl) ?_
  refine lv_iload hx hb (by decide +kernel : decode code 916 = .ok (.iload 4, 2)) (lv_at hl 4 rfl) ?_
  refine lv_iconst (v := nI 2) hx hb (by decide +kernel : decode code 918 = .ok (.iconst 2, 1)) (by decide) ?_
  refine lv_iadd hx hb (by decide +kernel : decode code 919 = .ok (.iadd, 1)) ?_
  refine zlsld hX hS (j := 2) (by omega) hL (by decide +kernel : decode code 920 = .ok (.iaload, 1)) ?_
  refine lv_aload_n hx hb (by decide +kernel : decode code 921 = .ok (.aload_n 0, 1)) rfl (lv_at hl 0 rfl) ?_
  refine lv_iload hx hb (by decide +kernel : decode code 922 = .ok (.iload 4, 2)) (lv_at hl 4 rfl) ?_
  refine lv_iconst (v := nI 3) hx hb (by decide +kernel : decode code 924 = .ok (.iconst 3, 1)) (by decide) ?_
  refine lv_iadd hx hb (by decide +kernel : decode code 925 = .ok (.iadd, 1)) ?_
  refine zlsld hX hS (j := 3) (by omega) hL (by decide +kernel : decode code 926 = .ok (.iaload, 1)) ?_
  refine lv_aload_n hx hb (by decide +kernel : decode code 927 = .ok (.aload_n 3, 1)) rfl (lv_at hl 3 rfl) ?_
  obtain ⟨k, v, σ1, σ2, f1, hcon, hmod, hth, hf, hk3, hI2⟩ := jc_12 l hfl (f := f) hB hI hσ (zxr (xs (i + 1))) (zxr (xs (i + 2))) (zxr (xs (i + 3)))
  refine zlh_call (y := yL_operation) (as := [zI (xs (i + 1)).toInt, zI (xs (i + 2)).toInt, zI (xs (i + 3)).toInt]) (n := 5) (rest := []) (A0 := zAA s) S hcon zhl_12 zhs_12 zhc_12 zlw_ini ⟨by decide +kernel, by decide +kernel⟩ (by decide +kernel) rfl (by decide) ⟨by decide, by decide⟩ ⟨by show cells + 1 ≤ 601024; omega, by show slots + 6 ≤ 7293034; omega⟩ hl.1 (Nat.le_of_ble_eq_true rfl) (by decide +kernel : decode code 928 = .ok (.invokestatic 131, 3)) (hX.K d) (hX.N d) (hX.Tv d) (hX.Nc d) (hX.Ts d hS) hP hD hS (fun q hq => hq) (fun H1 locs1 hP hD hS hok => ?_)
  refine lv_istore (lv' := [(5, .int (Int32.ofInt k)), (0, .ref b), (1, .ref (A 0)), (2, .ref (A 9)), (3, .ref o), (4, .int (nI i))]) hx hb (by decide +kernel : decode code 931 = .ok (.istore 5, 2)) hl (by decide) rfl (fun ls hl => ?_)
  refine lv_aload_n hx hb (by decide +kernel : decode code 933 = .ok (.aload_n 2, 1)) rfl (lv_at hl 3 rfl) ?_
  refine lv_aload_n hx hb (by decide +kernel : decode code 934 = .ok (.aload_n 0, 1)) rfl (lv_at hl 1 rfl) ?_
  refine lv_iload hx hb (by decide +kernel : decode code 935 = .ok (.iload 4, 2)) (lv_at hl 5 rfl) ?_
  refine lv_iconst (v := nI 1) hx hb (by decide +kernel : decode code 937 = .ok (.iconst 1, 1)) (by decide) ?_
  refine lv_iadd hx hb (by decide +kernel : decode code 938 = .ok (.iadd, 1)) ?_
  refine zlsld hX hS (j := 1) (by omega) hL (by decide +kernel : decode code 939 = .ok (.iaload, 1)) ?_
  refine lv_aload_n hx hb (by decide +kernel : decode code 940 = .ok (.aload_n 0, 1)) rfl (lv_at hl 1 rfl) ?_
  refine lv_iload hx hb (by decide +kernel : decode code 941 = .ok (.iload 4, 2)) (lv_at hl 5 rfl) ?_
  refine lv_iconst (v := nI 2) hx hb (by decide +kernel : decode code 943 = .ok (.iconst 2, 1)) (by decide) ?_
  refine lv_iadd hx hb (by decide +kernel : decode code 944 = .ok (.iadd, 1)) ?_
  refine zlsld hX hS (j := 2) (by omega) hL (by decide +kernel : decode code 945 = .ok (.iaload, 1)) ?_
  refine lv_aload_n hx hb (by decide +kernel : decode code 946 = .ok (.aload_n 0, 1)) rfl (lv_at hl 1 rfl) ?_
  refine lv_iload hx hb (by decide +kernel : decode code 947 = .ok (.iload 4, 2)) (lv_at hl 5 rfl) ?_
  refine lv_iconst (v := nI 3) hx hb (by decide +kernel : decode code 949 = .ok (.iconst 3, 1)) (by decide) ?_
  refine lv_iadd hx hb (by decide +kernel : decode code 950 = .ok (.iadd, 1)) ?_
  refine zlsld hX hS (j := 3) (by omega) hL (by decide +kernel : decode code 951 = .ok (.iaload, 1)) ?_
  refine zlc_V (k := 9) (ci := 6) (n := 3) (as := [zI (xs (i + 1)).toInt, zI (xs (i + 2)).toInt, zI (xs (i + 3)).toInt]) (rest := []) (A0 := zAA s) S (hmod hok) (by decide) rfl rfl zmk_85 zmi_85 zms_85 zMk_85 (by decide +kernel) rfl (by decide +kernel) (by decide +kernel) ⟨by show cells + 1 ≤ 601024; omega, by show slots + 6 ≤ 7293034; omega⟩ hl.1 (Nat.le_of_ble_eq_true rfl) (by decide +kernel : decode code 952 = .ok (.invokevirtual 133, 3)) (hX.K d) (hX.N d) hP hD hS (fun q hq => hq) (fun H2 locs2 hP hD hS hok2 hvs _ => ?_)
  exact law_tail (p0 := 955) (off := 583) hX (by omega) (by decide +kernel : decode code 955 = .ok (.istore 6, 2)) (by decide +kernel : decode code 957 = .ok (.aload_n 2, 1)) (by decide +kernel : decode code 958 = .ok (.invokevirtual 92, 3)) (by decide +kernel : decode code 961 = .ok (.iload 5, 2)) (by decide +kernel : decode code 963 = .ok (.if_icmp .eq 5, 3)) (by decide +kernel : decode code 968 = .ok (.iload 5, 2)) (by decide +kernel : decode code 970 = .ok (.ifCond .ne 15, 3)) (by decide +kernel : decode code 973 = .ok (.aload_n 3, 1)) (by decide +kernel : decode code 974 = .ok (.iconst 0, 1)) (by decide +kernel : decode code 975 = .ok (.laload, 1)) (by decide +kernel : decode code 976 = .ok (.iload 6, 2)) (by decide +kernel : decode code 978 = .ok (.i2l, 1)) (by decide +kernel : decode code 979 = .ok (.lcmp, 1)) (by decide +kernel : decode code 980 = .ok (.ifCond .eq 5, 3)) (by decide +kernel : decode code 985 = .ok (.goto 583, 3)) (by decide) ⟨hd, hok2, hP, hD, hS⟩ hI2 hth hk3 hf hl (by omega) (by omega) K
theorem zhl_13 : Cond.methodLink RL 134 yL_breakdown ∈ zWL := zwl 806 (by decide +kernel) rfl
theorem zhs_13 : Cond.static yL_breakdown ∈ zWL := zwl 807 (by decide +kernel) rfl
theorem zhc_13 : Cond.codeWith yL_breakdown cL_breakdown 5 (some .int) [(0, 10, 13, 25), (0, 10, 17, 13)] ∈ zWL := zwl 808 (by decide +kernel) rfl
theorem zmk_86 : Cond.methodLink RL 136 yX5_breakdown ∈ zWL := zwl 1124 (by decide +kernel) rfl
theorem zmi_86 : Cond.instanceMethod yX5_breakdown ∈ zWL := zwl 1125 (by decide +kernel) rfl
theorem zms_86 : Cond.selects RX5 yX5_breakdown yX5_breakdown ∈ zWL := zwl 1126 (by decide +kernel) rfl
theorem lc_13 {p : Program} {l : Launch} {e : Env} {s : State} {m : MethodId} {below : List Frame} {meth : Method} {c : Code} {b L : Nat} {xs : Nat → Int32} {D : va_G} {A : Nat → Nat} {cI cQ cL : ClassId} {o i : Nat} {B : Int} {Q : State → Prop} {d : Drawn} {σ : zSt} {f : Nat → Int64} {H : Heap} {locs : List Loc} {ls : Array Slot} {cells slots : Nat} (hX : zLx p s m meth c b L xs D cI cQ cL) (hfl : l.stackTraces = false) (hL : L ≤ 2048) (hi : i + 3 < L) (hB : 2000 ≤ B ∧ B ≤ 500000) (hs : zLs s D A cI cQ cL o d σ f H locs) (hI : Inv σ B) (hl : lv_has ls 9 (zLv b A o i)) (hc : cells ≤ 100 + i) (hsl : slots ≤ 4000 + 6 * i) (K : zNx p l e s m below meth c b D A cI cQ cL o i B Q) :
    W p l e room_1 (s.setDrawn d) m #[Value.ref b] below meth c H locs cells slots Q (F0 m 988 ls []) := by
  have S := hX.S d
  have hx := S.1
  have hb := S.2.1
  obtain ⟨hd, hσ, hP, hD, hS⟩ := hs
  have hl : lv_has ls 9 [(0, .ref b), (1, .ref (A 0)), (2, .ref (A 9)), (3, .ref o), (4, .int (nI i))] := hl
  refine lv_aload_n hx hb (by decide +kernel : decode code 988 = .ok (.aload_n 1, 1)) rfl (lv_at hl 1 rfl) ?_
  refine lv_aload_n hx hb (by decide +kernel : decode code 989 = .ok (.aload_n 0, 1)) rfl (lv_at hl 0 rfl) ?_
  refine lv_iload hx hb (by decide +kernel : decode code 990 = .ok (.iload 4, 2)) (lv_at hl 4 rfl) ?_
  refine lv_iconst (v := nI 1) hx hb (by decide +kernel : decode code 992 = .ok (.iconst 1, 1)) (by decide) ?_
  refine lv_iadd hx hb (by decide +kernel : decode code 993 = .ok (.iadd, 1)) ?_
  refine zlsld hX hS (j := 1) (by omega) hL (by decide +kernel : decode code 994 = .ok (.iaload, 1)) ?_
  refine lv_aload_n hx hb (by decide +kernel : decode code 995 = .ok (.aload_n 0, 1)) rfl (lv_at hl 0 rfl) ?_
  refine lv_iload hx hb (by decide +kernel : decode code 996 = .ok (.iload 4, 2)) (lv_at hl 4 rfl) ?_
  refine lv_iconst (v := nI 2) hx hb (by decide +kernel : decode code 998 = .ok (.iconst 2, 1)) (by decide) ?_
  refine lv_iadd hx hb (by decide +kernel : decode code 999 = .ok (.iadd, 1)) ?_
  refine zlsld hX hS (j := 2) (by omega) hL (by decide +kernel : decode code 1000 = .ok (.iaload, 1)) ?_
  refine lv_aload_n hx hb (by decide +kernel : decode code 1001 = .ok (.aload_n 3, 1)) rfl (lv_at hl 3 rfl) ?_
  obtain ⟨k, v, σ1, σ2, f1, hcon, hmod, hth, hf, hk3, hI2⟩ := jc_13 l hfl (f := f) hB hI hσ (zxr (xs (i + 1))) (zxr (xs (i + 2)))
  refine zlh_call (y := yL_breakdown) (as := [zI (xs (i + 1)).toInt, zI (xs (i + 2)).toInt]) (n := 4) (rest := []) (A0 := zAA s) S hcon zhl_13 zhs_13 zhc_13 zlw_ini ⟨by decide +kernel, by decide +kernel⟩ (by decide +kernel) rfl (by decide) ⟨by decide, by decide⟩ ⟨by show cells + 1 ≤ 601024; omega, by show slots + 6 ≤ 7293034; omega⟩ hl.1 (Nat.le_of_ble_eq_true rfl) (by decide +kernel : decode code 1002 = .ok (.invokestatic 134, 3)) (hX.K d) (hX.N d) (hX.Tv d) (hX.Nc d) (hX.Ts d hS) hP hD hS (fun q hq => hq) (fun H1 locs1 hP hD hS hok => ?_)
  refine lv_istore (lv' := [(5, .int (Int32.ofInt k)), (0, .ref b), (1, .ref (A 0)), (2, .ref (A 9)), (3, .ref o), (4, .int (nI i))]) hx hb (by decide +kernel : decode code 1005 = .ok (.istore 5, 2)) hl (by decide) rfl (fun ls hl => ?_)
  refine lv_aload_n hx hb (by decide +kernel : decode code 1007 = .ok (.aload_n 2, 1)) rfl (lv_at hl 3 rfl) ?_
  refine lv_aload_n hx hb (by decide +kernel : decode code 1008 = .ok (.aload_n 0, 1)) rfl (lv_at hl 1 rfl) ?_
  refine lv_iload hx hb (by decide +kernel : decode code 1009 = .ok (.iload 4, 2)) (lv_at hl 5 rfl) ?_
  refine lv_iconst (v := nI 1) hx hb (by decide +kernel : decode code 1011 = .ok (.iconst 1, 1)) (by decide) ?_
  refine lv_iadd hx hb (by decide +kernel : decode code 1012 = .ok (.iadd, 1)) ?_
  refine zlsld hX hS (j := 1) (by omega) hL (by decide +kernel : decode code 1013 = .ok (.iaload, 1)) ?_
  refine lv_aload_n hx hb (by decide +kernel : decode code 1014 = .ok (.aload_n 0, 1)) rfl (lv_at hl 1 rfl) ?_
  refine lv_iload hx hb (by decide +kernel : decode code 1015 = .ok (.iload 4, 2)) (lv_at hl 5 rfl) ?_
  refine lv_iconst (v := nI 2) hx hb (by decide +kernel : decode code 1017 = .ok (.iconst 2, 1)) (by decide) ?_
  refine lv_iadd hx hb (by decide +kernel : decode code 1018 = .ok (.iadd, 1)) ?_
  refine zlsld hX hS (j := 2) (by omega) hL (by decide +kernel : decode code 1019 = .ok (.iaload, 1)) ?_
  refine zlc_V (k := 9) (ci := 6) (n := 2) (as := [zI (xs (i + 1)).toInt, zI (xs (i + 2)).toInt]) (rest := []) (A0 := zAA s) S (hmod hok) (by decide) rfl rfl zmk_86 zmi_86 zms_86 zMk_86 (by decide +kernel) rfl (by decide +kernel) (by decide +kernel) ⟨by show cells + 1 ≤ 601024; omega, by show slots + 6 ≤ 7293034; omega⟩ hl.1 (Nat.le_of_ble_eq_true rfl) (by decide +kernel : decode code 1020 = .ok (.invokevirtual 136, 3)) (hX.K d) (hX.N d) hP hD hS (fun q hq => hq) (fun H2 locs2 hP hD hS hok2 hvs _ => ?_)
  exact law_tail (p0 := 1023) (off := 515) hX (by omega) (by decide +kernel : decode code 1023 = .ok (.istore 6, 2)) (by decide +kernel : decode code 1025 = .ok (.aload_n 2, 1)) (by decide +kernel : decode code 1026 = .ok (.invokevirtual 92, 3)) (by decide +kernel : decode code 1029 = .ok (.iload 5, 2)) (by decide +kernel : decode code 1031 = .ok (.if_icmp .eq 5, 3)) (by decide +kernel : decode code 1036 = .ok (.iload 5, 2)) (by decide +kernel : decode code 1038 = .ok (.ifCond .ne 15, 3)) (by decide +kernel : decode code 1041 = .ok (.aload_n 3, 1)) (by decide +kernel : decode code 1042 = .ok (.iconst 0, 1)) (by decide +kernel : decode code 1043 = .ok (.laload, 1)) (by decide +kernel : decode code 1044 = .ok (.iload 6, 2)) (by decide +kernel : decode code 1046 = .ok (.i2l, 1)) (by decide +kernel : decode code 1047 = .ok (.lcmp, 1)) (by decide +kernel : decode code 1048 = .ok (.ifCond .eq 5, 3)) (by decide +kernel : decode code 1053 = .ok (.goto 515, 3)) (by decide) ⟨hd, hok2, hP, hD, hS⟩ hI2 hth hk3 hf hl (by omega) (by omega) K
theorem zhl_14 : Cond.methodLink RL 137 yL_value ∈ zWL := zwl 810 (by decide +kernel) rfl
theorem zhs_14 : Cond.static yL_value ∈ zWL := zwl 811 (by decide +kernel) rfl
theorem zhc_14 : Cond.codeWith yL_value cL_value 4 (some .int) [(0, 9, 12, 13)] ∈ zWL := zwl 812 (by decide +kernel) rfl
theorem zmk_91 : Cond.methodLink RL 139 yX5_value ∈ zWL := zwl 1128 (by decide +kernel) rfl
theorem zmi_91 : Cond.instanceMethod yX5_value ∈ zWL := zwl 1129 (by decide +kernel) rfl
theorem zms_91 : Cond.selects RX5 yX5_value yX5_value ∈ zWL := zwl 1130 (by decide +kernel) rfl
theorem lc_14 {p : Program} {l : Launch} {e : Env} {s : State} {m : MethodId} {below : List Frame} {meth : Method} {c : Code} {b L : Nat} {xs : Nat → Int32} {D : va_G} {A : Nat → Nat} {cI cQ cL : ClassId} {o i : Nat} {B : Int} {Q : State → Prop} {d : Drawn} {σ : zSt} {f : Nat → Int64} {H : Heap} {locs : List Loc} {ls : Array Slot} {cells slots : Nat} (hX : zLx p s m meth c b L xs D cI cQ cL) (hfl : l.stackTraces = false) (hL : L ≤ 2048) (hi : i + 3 < L) (hB : 2000 ≤ B ∧ B ≤ 500000) (hs : zLs s D A cI cQ cL o d σ f H locs) (hI : Inv σ B) (hl : lv_has ls 9 (zLv b A o i)) (hc : cells ≤ 100 + i) (hsl : slots ≤ 4000 + 6 * i) (K : zNx p l e s m below meth c b D A cI cQ cL o i B Q) :
    W p l e room_1 (s.setDrawn d) m #[Value.ref b] below meth c H locs cells slots Q (F0 m 1056 ls []) := by
  have S := hX.S d
  have hx := S.1
  have hb := S.2.1
  obtain ⟨hd, hσ, hP, hD, hS⟩ := hs
  have hl : lv_has ls 9 [(0, .ref b), (1, .ref (A 0)), (2, .ref (A 9)), (3, .ref o), (4, .int (nI i))] := hl
  refine lv_aload_n hx hb (by decide +kernel : decode code 1056 = .ok (.aload_n 1, 1)) rfl (lv_at hl 1 rfl) ?_
  refine lv_aload_n hx hb (by decide +kernel : decode code 1057 = .ok (.aload_n 0, 1)) rfl (lv_at hl 0 rfl) ?_
  refine lv_iload hx hb (by decide +kernel : decode code 1058 = .ok (.iload 4, 2)) (lv_at hl 4 rfl) ?_
  refine lv_iconst (v := nI 1) hx hb (by decide +kernel : decode code 1060 = .ok (.iconst 1, 1)) (by decide) ?_
  refine lv_iadd hx hb (by decide +kernel : decode code 1061 = .ok (.iadd, 1)) ?_
  refine zlsld hX hS (j := 1) (by omega) hL (by decide +kernel : decode code 1062 = .ok (.iaload, 1)) ?_
  refine lv_aload_n hx hb (by decide +kernel : decode code 1063 = .ok (.aload_n 3, 1)) rfl (lv_at hl 3 rfl) ?_
  obtain ⟨k, v, σ1, σ2, f1, hcon, hmod, hth, hf, hk3, hI2⟩ := jc_14 l hfl (f := f) hB hI hσ (zxr (xs (i + 1)))
  refine zlh_call (y := yL_value) (as := [zI (xs (i + 1)).toInt]) (n := 3) (rest := []) (A0 := zAA s) S hcon zhl_14 zhs_14 zhc_14 zlw_ini ⟨by decide +kernel, by decide +kernel⟩ (by decide +kernel) rfl (by decide) ⟨by decide, by decide⟩ ⟨by show cells + 1 ≤ 601024; omega, by show slots + 6 ≤ 7293034; omega⟩ hl.1 (Nat.le_of_ble_eq_true rfl) (by decide +kernel : decode code 1064 = .ok (.invokestatic 137, 3)) (hX.K d) (hX.N d) (hX.Tv d) (hX.Nc d) (hX.Ts d hS) hP hD hS (fun q hq => hq) (fun H1 locs1 hP hD hS hok => ?_)
  refine lv_istore (lv' := [(5, .int (Int32.ofInt k)), (0, .ref b), (1, .ref (A 0)), (2, .ref (A 9)), (3, .ref o), (4, .int (nI i))]) hx hb (by decide +kernel : decode code 1067 = .ok (.istore 5, 2)) hl (by decide) rfl (fun ls hl => ?_)
  refine lv_aload_n hx hb (by decide +kernel : decode code 1069 = .ok (.aload_n 2, 1)) rfl (lv_at hl 3 rfl) ?_
  refine lv_aload_n hx hb (by decide +kernel : decode code 1070 = .ok (.aload_n 0, 1)) rfl (lv_at hl 1 rfl) ?_
  refine lv_iload hx hb (by decide +kernel : decode code 1071 = .ok (.iload 4, 2)) (lv_at hl 5 rfl) ?_
  refine lv_iconst (v := nI 1) hx hb (by decide +kernel : decode code 1073 = .ok (.iconst 1, 1)) (by decide) ?_
  refine lv_iadd hx hb (by decide +kernel : decode code 1074 = .ok (.iadd, 1)) ?_
  refine zlsld hX hS (j := 1) (by omega) hL (by decide +kernel : decode code 1075 = .ok (.iaload, 1)) ?_
  refine zlc_V (k := 9) (ci := 6) (n := 1) (as := [zI (xs (i + 1)).toInt]) (rest := []) (A0 := zAA s) S (hmod hok) (by decide) rfl rfl zmk_91 zmi_91 zms_91 zMk_91 (by decide +kernel) rfl (by decide +kernel) (by decide +kernel) ⟨by show cells + 1 ≤ 601024; omega, by show slots + 6 ≤ 7293034; omega⟩ hl.1 (Nat.le_of_ble_eq_true rfl) (by decide +kernel : decode code 1076 = .ok (.invokevirtual 139, 3)) (hX.K d) (hX.N d) hP hD hS (fun q hq => hq) (fun H2 locs2 hP hD hS hok2 hvs _ => ?_)
  exact law_tail (p0 := 1079) (off := 459) hX (by omega) (by decide +kernel : decode code 1079 = .ok (.istore 6, 2)) (by decide +kernel : decode code 1081 = .ok (.aload_n 2, 1)) (by decide +kernel : decode code 1082 = .ok (.invokevirtual 92, 3)) (by decide +kernel : decode code 1085 = .ok (.iload 5, 2)) (by decide +kernel : decode code 1087 = .ok (.if_icmp .eq 5, 3)) (by decide +kernel : decode code 1092 = .ok (.iload 5, 2)) (by decide +kernel : decode code 1094 = .ok (.ifCond .ne 15, 3)) (by decide +kernel : decode code 1097 = .ok (.aload_n 3, 1)) (by decide +kernel : decode code 1098 = .ok (.iconst 0, 1)) (by decide +kernel : decode code 1099 = .ok (.laload, 1)) (by decide +kernel : decode code 1100 = .ok (.iload 6, 2)) (by decide +kernel : decode code 1102 = .ok (.i2l, 1)) (by decide +kernel : decode code 1103 = .ok (.lcmp, 1)) (by decide +kernel : decode code 1104 = .ok (.ifCond .eq 5, 3)) (by decide +kernel : decode code 1109 = .ok (.goto 459, 3)) (by decide) ⟨hd, hok2, hP, hD, hS⟩ hI2 hth hk3 hf hl (by omega) (by omega) K
theorem zdk_15 : Cond.methodLink RL 140 yX4_meeting ∈ zWL := zwl 297 (by decide +kernel) rfl
theorem zdi_15 : Cond.instanceMethod yX4_meeting ∈ zWL := zwl 298 (by decide +kernel) rfl
theorem zds_15 : Cond.selects RX4 yX4_meeting yX4_meeting ∈ zWL := zwl 299 (by decide +kernel) rfl
theorem zmk_93 : Cond.methodLink RL 143 yX5_meeting ∈ zWL := zwl 1148 (by decide +kernel) rfl
theorem zmi_93 : Cond.instanceMethod yX5_meeting ∈ zWL := zwl 1149 (by decide +kernel) rfl
theorem zms_93 : Cond.selects RX5 yX5_meeting yX5_meeting ∈ zWL := zwl 1150 (by decide +kernel) rfl
theorem lc_15 {p : Program} {l : Launch} {e : Env} {s : State} {m : MethodId} {below : List Frame} {meth : Method} {c : Code} {b L : Nat} {xs : Nat → Int32} {D : va_G} {A : Nat → Nat} {cI cQ cL : ClassId} {o i : Nat} {B : Int} {Q : State → Prop} {d : Drawn} {σ : zSt} {f : Nat → Int64} {H : Heap} {locs : List Loc} {ls : Array Slot} {cells slots : Nat} (hX : zLx p s m meth c b L xs D cI cQ cL) (hfl : l.stackTraces = false) (hL : L ≤ 2048) (hi : i + 3 < L) (hB : 2000 ≤ B ∧ B ≤ 500000) (hs : zLs s D A cI cQ cL o d σ f H locs) (hI : Inv σ B) (hl : lv_has ls 9 (zLv b A o i)) (hc : cells ≤ 100 + i) (hsl : slots ≤ 4000 + 6 * i) (K : zNx p l e s m below meth c b D A cI cQ cL o i B Q) :
    W p l e room_1 (s.setDrawn d) m #[Value.ref b] below meth c H locs cells slots Q (F0 m 1112 ls []) := by
  have S := hX.S d
  have hx := S.1
  have hb := S.2.1
  obtain ⟨hd, hσ, hP, hD, hS⟩ := hs
  have hl : lv_has ls 9 [(0, .ref b), (1, .ref (A 0)), (2, .ref (A 9)), (3, .ref o), (4, .int (nI i))] := hl
  refine lv_aload_n hx hb (by decide +kernel : decode code 1112 = .ok (.aload_n 1, 1)) rfl (lv_at hl 1 rfl) ?_
  obtain ⟨v, σ1, σ2, hcon, hmod, hI2⟩ := jd_15 l hB hI hσ
  refine zlc_V (k := 0) (ci := 5) (n := 0) (as := []) (rest := []) (A0 := zAA s) S hcon (by decide) rfl rfl zdk_15 zdi_15 zds_15 zMk_15 (by decide +kernel) rfl (by decide +kernel) (by decide +kernel) ⟨by show cells ≤ 601024; omega, by show slots ≤ 7293034; omega⟩ hl.1 (Nat.le_of_ble_eq_true rfl) (by decide +kernel : decode code 1113 = .ok (.invokevirtual 140, 3)) (hX.K d) (hX.N d) hP hD hS (fun q hq => hq) (fun H1 locs1 hP hD hS hok hvs _ => ?_)
  refine lv_aload_n hx hb (by decide +kernel : decode code 1116 = .ok (.aload_n 2, 1)) rfl (lv_at hl 2 rfl) ?_
  refine zlc_V (k := 9) (ci := 6) (n := 0) (as := []) (rest := [.int (Int32.ofInt v)]) (A0 := zAA s) S (hmod hok) (by decide) rfl rfl zmk_93 zmi_93 zms_93 zMk_93 (by decide +kernel) rfl (by decide +kernel) (by decide +kernel) ⟨by show cells ≤ 601024; omega, by show slots ≤ 7293034; omega⟩ hl.1 (Nat.le_of_ble_eq_true rfl) (by decide +kernel : decode code 1117 = .ok (.invokevirtual 143, 3)) (hX.K d) (hX.N d) hP hD hS (fun q hq => hq) (fun H2 locs2 hP hD hS hok2 hvs _ => ?_)
  refine lv_icmp_eq (tgt := 1568) hx hb (by decide +kernel : decode code 1120 = .ok (.if_icmp .eq 448, 3)) (by decide) (fun _ => ?_) (fun hne => absurd rfl hne)
  exact K d σ2 f H2 locs2 ls cells slots ⟨hd, hok2, hP, hD, hS⟩ hI2 hl (by omega) (by omega)
theorem zhl_16 : Cond.methodLink RL 144 yL_onMachine ∈ zWL := zwl 814 (by decide +kernel) rfl
theorem zhs_16 : Cond.static yL_onMachine ∈ zWL := zwl 815 (by decide +kernel) rfl
theorem zhc_16 : Cond.codeWith yL_onMachine cL_onMachine 5 (some .int) [(0, 10, 13, 25)] ∈ zWL := zwl 816 (by decide +kernel) rfl
theorem zmk_95 : Cond.methodLink RL 146 yX5_onMachine ∈ zWL := zwl 1156 (by decide +kernel) rfl
theorem zmi_95 : Cond.instanceMethod yX5_onMachine ∈ zWL := zwl 1157 (by decide +kernel) rfl
theorem zms_95 : Cond.selects RX5 yX5_onMachine yX5_onMachine ∈ zWL := zwl 1158 (by decide +kernel) rfl
theorem lc_16 {p : Program} {l : Launch} {e : Env} {s : State} {m : MethodId} {below : List Frame} {meth : Method} {c : Code} {b L : Nat} {xs : Nat → Int32} {D : va_G} {A : Nat → Nat} {cI cQ cL : ClassId} {o i : Nat} {B : Int} {Q : State → Prop} {d : Drawn} {σ : zSt} {f : Nat → Int64} {H : Heap} {locs : List Loc} {ls : Array Slot} {cells slots : Nat} (hX : zLx p s m meth c b L xs D cI cQ cL) (hfl : l.stackTraces = false) (hL : L ≤ 2048) (hi : i + 3 < L) (hB : 2000 ≤ B ∧ B ≤ 500000) (hs : zLs s D A cI cQ cL o d σ f H locs) (hI : Inv σ B) (hl : lv_has ls 9 (zLv b A o i)) (hc : cells ≤ 100 + i) (hsl : slots ≤ 4000 + 6 * i) (K : zNx p l e s m below meth c b D A cI cQ cL o i B Q) :
    W p l e room_1 (s.setDrawn d) m #[Value.ref b] below meth c H locs cells slots Q (F0 m 1125 ls []) := by
  have S := hX.S d
  have hx := S.1
  have hb := S.2.1
  obtain ⟨hd, hσ, hP, hD, hS⟩ := hs
  have hl : lv_has ls 9 [(0, .ref b), (1, .ref (A 0)), (2, .ref (A 9)), (3, .ref o), (4, .int (nI i))] := hl
  refine lv_aload_n hx hb (by decide +kernel : decode code 1125 = .ok (.aload_n 1, 1)) rfl (lv_at hl 1 rfl) ?_
  refine lv_aload_n hx hb (by decide +kernel : decode code 1126 = .ok (.aload_n 0, 1)) rfl (lv_at hl 0 rfl) ?_
  refine lv_iload hx hb (by decide +kernel : decode code 1127 = .ok (.iload 4, 2)) (lv_at hl 4 rfl) ?_
  refine lv_iconst (v := nI 1) hx hb (by decide +kernel : decode code 1129 = .ok (.iconst 1, 1)) (by decide) ?_
  refine lv_iadd hx hb (by decide +kernel : decode code 1130 = .ok (.iadd, 1)) ?_
  refine zlsld hX hS (j := 1) (by omega) hL (by decide +kernel : decode code 1131 = .ok (.iaload, 1)) ?_
  refine lv_aload_n hx hb (by decide +kernel : decode code 1132 = .ok (.aload_n 0, 1)) rfl (lv_at hl 0 rfl) ?_
  refine lv_iload hx hb (by decide +kernel : decode code 1133 = .ok (.iload 4, 2)) (lv_at hl 4 rfl) ?_
  refine lv_iconst (v := nI 2) hx hb (by decide +kernel : decode code 1135 = .ok (.iconst 2, 1)) (by decide) ?_
  refine lv_iadd hx hb (by decide +kernel : decode code 1136 = .ok (.iadd, 1)) ?_
  refine zlsld hX hS (j := 2) (by omega) hL (by decide +kernel : decode code 1137 = .ok (.iaload, 1)) ?_
  refine lv_aload_n hx hb (by decide +kernel : decode code 1138 = .ok (.aload_n 3, 1)) rfl (lv_at hl 3 rfl) ?_
  obtain ⟨k, v, σ1, σ2, f1, hcon, hmod, hth, hf, hk3, hI2⟩ := jc_16 l hfl (f := f) hB hI hσ (zxr (xs (i + 1))) (zxr (xs (i + 2)))
  refine zlh_call (y := yL_onMachine) (as := [zI (xs (i + 1)).toInt, zI (xs (i + 2)).toInt]) (n := 4) (rest := []) (A0 := zAA s) S hcon zhl_16 zhs_16 zhc_16 zlw_ini ⟨by decide +kernel, by decide +kernel⟩ (by decide +kernel) rfl (by decide) ⟨by decide, by decide⟩ ⟨by show cells + 1 ≤ 601024; omega, by show slots + 6 ≤ 7293034; omega⟩ hl.1 (Nat.le_of_ble_eq_true rfl) (by decide +kernel : decode code 1139 = .ok (.invokestatic 144, 3)) (hX.K d) (hX.N d) (hX.Tv d) (hX.Nc d) (hX.Ts d hS) hP hD hS (fun q hq => hq) (fun H1 locs1 hP hD hS hok => ?_)
  refine lv_istore (lv' := [(5, .int (Int32.ofInt k)), (0, .ref b), (1, .ref (A 0)), (2, .ref (A 9)), (3, .ref o), (4, .int (nI i))]) hx hb (by decide +kernel : decode code 1142 = .ok (.istore 5, 2)) hl (by decide) rfl (fun ls hl => ?_)
  refine lv_aload_n hx hb (by decide +kernel : decode code 1144 = .ok (.aload_n 2, 1)) rfl (lv_at hl 3 rfl) ?_
  refine lv_aload_n hx hb (by decide +kernel : decode code 1145 = .ok (.aload_n 0, 1)) rfl (lv_at hl 1 rfl) ?_
  refine lv_iload hx hb (by decide +kernel : decode code 1146 = .ok (.iload 4, 2)) (lv_at hl 5 rfl) ?_
  refine lv_iconst (v := nI 1) hx hb (by decide +kernel : decode code 1148 = .ok (.iconst 1, 1)) (by decide) ?_
  refine lv_iadd hx hb (by decide +kernel : decode code 1149 = .ok (.iadd, 1)) ?_
  refine zlsld hX hS (j := 1) (by omega) hL (by decide +kernel : decode code 1150 = .ok (.iaload, 1)) ?_
  refine lv_aload_n hx hb (by decide +kernel : decode code 1151 = .ok (.aload_n 0, 1)) rfl (lv_at hl 1 rfl) ?_
  refine lv_iload hx hb (by decide +kernel : decode code 1152 = .ok (.iload 4, 2)) (lv_at hl 5 rfl) ?_
  refine lv_iconst (v := nI 2) hx hb (by decide +kernel : decode code 1154 = .ok (.iconst 2, 1)) (by decide) ?_
  refine lv_iadd hx hb (by decide +kernel : decode code 1155 = .ok (.iadd, 1)) ?_
  refine zlsld hX hS (j := 2) (by omega) hL (by decide +kernel : decode code 1156 = .ok (.iaload, 1)) ?_
  refine zlc_V (k := 9) (ci := 6) (n := 2) (as := [zI (xs (i + 1)).toInt, zI (xs (i + 2)).toInt]) (rest := []) (A0 := zAA s) S (hmod hok) (by decide) rfl rfl zmk_95 zmi_95 zms_95 zMk_95 (by decide +kernel) rfl (by decide +kernel) (by decide +kernel) ⟨by show cells + 1 ≤ 601024; omega, by show slots + 6 ≤ 7293034; omega⟩ hl.1 (Nat.le_of_ble_eq_true rfl) (by decide +kernel : decode code 1157 = .ok (.invokevirtual 146, 3)) (hX.K d) (hX.N d) hP hD hS (fun q hq => hq) (fun H2 locs2 hP hD hS hok2 hvs _ => ?_)
  exact law_tail (p0 := 1160) (off := 378) hX (by omega) (by decide +kernel : decode code 1160 = .ok (.istore 6, 2)) (by decide +kernel : decode code 1162 = .ok (.aload_n 2, 1)) (by decide +kernel : decode code 1163 = .ok (.invokevirtual 92, 3)) (by decide +kernel : decode code 1166 = .ok (.iload 5, 2)) (by decide +kernel : decode code 1168 = .ok (.if_icmp .eq 5, 3)) (by decide +kernel : decode code 1173 = .ok (.iload 5, 2)) (by decide +kernel : decode code 1175 = .ok (.ifCond .ne 15, 3)) (by decide +kernel : decode code 1178 = .ok (.aload_n 3, 1)) (by decide +kernel : decode code 1179 = .ok (.iconst 0, 1)) (by decide +kernel : decode code 1180 = .ok (.laload, 1)) (by decide +kernel : decode code 1181 = .ok (.iload 6, 2)) (by decide +kernel : decode code 1183 = .ok (.i2l, 1)) (by decide +kernel : decode code 1184 = .ok (.lcmp, 1)) (by decide +kernel : decode code 1185 = .ok (.ifCond .eq 5, 3)) (by decide +kernel : decode code 1190 = .ok (.goto 378, 3)) (by decide) ⟨hd, hok2, hP, hD, hS⟩ hI2 hth hk3 hf hl (by omega) (by omega) K
theorem zhl_17 : Cond.methodLink RL 147 yL_latenessBy ∈ zWL := zwl 830 (by decide +kernel) rfl
theorem zhs_17 : Cond.static yL_latenessBy ∈ zWL := zwl 831 (by decide +kernel) rfl
theorem zhc_17 : Cond.codeWith yL_latenessBy cL_latenessBy 4 (some .int) [(0, 9, 12, 13)] ∈ zWL := zwl 832 (by decide +kernel) rfl
theorem zmk_97 : Cond.methodLink RL 149 yX5_latenessBy ∈ zWL := zwl 1164 (by decide +kernel) rfl
theorem zmi_97 : Cond.instanceMethod yX5_latenessBy ∈ zWL := zwl 1165 (by decide +kernel) rfl
theorem zms_97 : Cond.selects RX5 yX5_latenessBy yX5_latenessBy ∈ zWL := zwl 1166 (by decide +kernel) rfl
theorem lc_17 {p : Program} {l : Launch} {e : Env} {s : State} {m : MethodId} {below : List Frame} {meth : Method} {c : Code} {b L : Nat} {xs : Nat → Int32} {D : va_G} {A : Nat → Nat} {cI cQ cL : ClassId} {o i : Nat} {B : Int} {Q : State → Prop} {d : Drawn} {σ : zSt} {f : Nat → Int64} {H : Heap} {locs : List Loc} {ls : Array Slot} {cells slots : Nat} (hX : zLx p s m meth c b L xs D cI cQ cL) (hfl : l.stackTraces = false) (hL : L ≤ 2048) (hi : i + 3 < L) (hB : 2000 ≤ B ∧ B ≤ 500000) (hs : zLs s D A cI cQ cL o d σ f H locs) (hI : Inv σ B) (hl : lv_has ls 9 (zLv b A o i)) (hc : cells ≤ 100 + i) (hsl : slots ≤ 4000 + 6 * i) (K : zNx p l e s m below meth c b D A cI cQ cL o i B Q) :
    W p l e room_1 (s.setDrawn d) m #[Value.ref b] below meth c H locs cells slots Q (F0 m 1193 ls []) := by
  have S := hX.S d
  have hx := S.1
  have hb := S.2.1
  obtain ⟨hd, hσ, hP, hD, hS⟩ := hs
  have hl : lv_has ls 9 [(0, .ref b), (1, .ref (A 0)), (2, .ref (A 9)), (3, .ref o), (4, .int (nI i))] := hl
  refine lv_aload_n hx hb (by decide +kernel : decode code 1193 = .ok (.aload_n 1, 1)) rfl (lv_at hl 1 rfl) ?_
  refine lv_aload_n hx hb (by decide +kernel : decode code 1194 = .ok (.aload_n 0, 1)) rfl (lv_at hl 0 rfl) ?_
  refine lv_iload hx hb (by decide +kernel : decode code 1195 = .ok (.iload 4, 2)) (lv_at hl 4 rfl) ?_
  refine lv_iconst (v := nI 1) hx hb (by decide +kernel : decode code 1197 = .ok (.iconst 1, 1)) (by decide) ?_
  refine lv_iadd hx hb (by decide +kernel : decode code 1198 = .ok (.iadd, 1)) ?_
  refine zlsld hX hS (j := 1) (by omega) hL (by decide +kernel : decode code 1199 = .ok (.iaload, 1)) ?_
  refine lv_aload_n hx hb (by decide +kernel : decode code 1200 = .ok (.aload_n 3, 1)) rfl (lv_at hl 3 rfl) ?_
  obtain ⟨k, v, σ1, σ2, f1, hcon, hmod, hth, hf, hk3, hI2⟩ := jc_17 l hfl (f := f) hB hI hσ (zxr (xs (i + 1)))
  refine zlh_call (y := yL_latenessBy) (as := [zI (xs (i + 1)).toInt]) (n := 3) (rest := []) (A0 := zAA s) S hcon zhl_17 zhs_17 zhc_17 zlw_ini ⟨by decide +kernel, by decide +kernel⟩ (by decide +kernel) rfl (by decide) ⟨by decide, by decide⟩ ⟨by show cells + 1 ≤ 601024; omega, by show slots + 6 ≤ 7293034; omega⟩ hl.1 (Nat.le_of_ble_eq_true rfl) (by decide +kernel : decode code 1201 = .ok (.invokestatic 147, 3)) (hX.K d) (hX.N d) (hX.Tv d) (hX.Nc d) (hX.Ts d hS) hP hD hS (fun q hq => hq) (fun H1 locs1 hP hD hS hok => ?_)
  refine lv_istore (lv' := [(5, .int (Int32.ofInt k)), (0, .ref b), (1, .ref (A 0)), (2, .ref (A 9)), (3, .ref o), (4, .int (nI i))]) hx hb (by decide +kernel : decode code 1204 = .ok (.istore 5, 2)) hl (by decide) rfl (fun ls hl => ?_)
  refine lv_aload_n hx hb (by decide +kernel : decode code 1206 = .ok (.aload_n 2, 1)) rfl (lv_at hl 3 rfl) ?_
  refine lv_aload_n hx hb (by decide +kernel : decode code 1207 = .ok (.aload_n 0, 1)) rfl (lv_at hl 1 rfl) ?_
  refine lv_iload hx hb (by decide +kernel : decode code 1208 = .ok (.iload 4, 2)) (lv_at hl 5 rfl) ?_
  refine lv_iconst (v := nI 1) hx hb (by decide +kernel : decode code 1210 = .ok (.iconst 1, 1)) (by decide) ?_
  refine lv_iadd hx hb (by decide +kernel : decode code 1211 = .ok (.iadd, 1)) ?_
  refine zlsld hX hS (j := 1) (by omega) hL (by decide +kernel : decode code 1212 = .ok (.iaload, 1)) ?_
  refine zlc_V (k := 9) (ci := 6) (n := 1) (as := [zI (xs (i + 1)).toInt]) (rest := []) (A0 := zAA s) S (hmod hok) (by decide) rfl rfl zmk_97 zmi_97 zms_97 zMk_97 (by decide +kernel) rfl (by decide +kernel) (by decide +kernel) ⟨by show cells + 1 ≤ 601024; omega, by show slots + 6 ≤ 7293034; omega⟩ hl.1 (Nat.le_of_ble_eq_true rfl) (by decide +kernel : decode code 1213 = .ok (.invokevirtual 149, 3)) (hX.K d) (hX.N d) hP hD hS (fun q hq => hq) (fun H2 locs2 hP hD hS hok2 hvs _ => ?_)
  exact law_tail (p0 := 1216) (off := 322) hX (by omega) (by decide +kernel : decode code 1216 = .ok (.istore 6, 2)) (by decide +kernel : decode code 1218 = .ok (.aload_n 2, 1)) (by decide +kernel : decode code 1219 = .ok (.invokevirtual 92, 3)) (by decide +kernel : decode code 1222 = .ok (.iload 5, 2)) (by decide +kernel : decode code 1224 = .ok (.if_icmp .eq 5, 3)) (by decide +kernel : decode code 1229 = .ok (.iload 5, 2)) (by decide +kernel : decode code 1231 = .ok (.ifCond .ne 15, 3)) (by decide +kernel : decode code 1234 = .ok (.aload_n 3, 1)) (by decide +kernel : decode code 1235 = .ok (.iconst 0, 1)) (by decide +kernel : decode code 1236 = .ok (.laload, 1)) (by decide +kernel : decode code 1237 = .ok (.iload 6, 2)) (by decide +kernel : decode code 1239 = .ok (.i2l, 1)) (by decide +kernel : decode code 1240 = .ok (.lcmp, 1)) (by decide +kernel : decode code 1241 = .ok (.ifCond .eq 5, 3)) (by decide +kernel : decode code 1246 = .ok (.goto 322, 3)) (by decide) ⟨hd, hok2, hP, hD, hS⟩ hI2 hth hk3 hf hl (by omega) (by omega) K
theorem zdk_18 : Cond.methodLink RL 150 yX4_bestRule ∈ zWL := zwl 311 (by decide +kernel) rfl
theorem zdi_18 : Cond.instanceMethod yX4_bestRule ∈ zWL := zwl 312 (by decide +kernel) rfl
theorem zds_18 : Cond.selects RX4 yX4_bestRule yX4_bestRule ∈ zWL := zwl 313 (by decide +kernel) rfl
theorem zmk_98 : Cond.methodLink RL 153 yX5_bestRule ∈ zWL := zwl 1172 (by decide +kernel) rfl
theorem zmi_98 : Cond.instanceMethod yX5_bestRule ∈ zWL := zwl 1173 (by decide +kernel) rfl
theorem zms_98 : Cond.selects RX5 yX5_bestRule yX5_bestRule ∈ zWL := zwl 1174 (by decide +kernel) rfl
theorem lc_18 {p : Program} {l : Launch} {e : Env} {s : State} {m : MethodId} {below : List Frame} {meth : Method} {c : Code} {b L : Nat} {xs : Nat → Int32} {D : va_G} {A : Nat → Nat} {cI cQ cL : ClassId} {o i : Nat} {B : Int} {Q : State → Prop} {d : Drawn} {σ : zSt} {f : Nat → Int64} {H : Heap} {locs : List Loc} {ls : Array Slot} {cells slots : Nat} (hX : zLx p s m meth c b L xs D cI cQ cL) (hfl : l.stackTraces = false) (hL : L ≤ 2048) (hi : i + 3 < L) (hB : 2000 ≤ B ∧ B ≤ 500000) (hs : zLs s D A cI cQ cL o d σ f H locs) (hI : Inv σ B) (hl : lv_has ls 9 (zLv b A o i)) (hc : cells ≤ 100 + i) (hsl : slots ≤ 4000 + 6 * i) (K : zNx p l e s m below meth c b D A cI cQ cL o i B Q) :
    W p l e room_1 (s.setDrawn d) m #[Value.ref b] below meth c H locs cells slots Q (F0 m 1249 ls []) := by
  have S := hX.S d
  have hx := S.1
  have hb := S.2.1
  obtain ⟨hd, hσ, hP, hD, hS⟩ := hs
  have hl : lv_has ls 9 [(0, .ref b), (1, .ref (A 0)), (2, .ref (A 9)), (3, .ref o), (4, .int (nI i))] := hl
  refine lv_aload_n hx hb (by decide +kernel : decode code 1249 = .ok (.aload_n 1, 1)) rfl (lv_at hl 1 rfl) ?_
  obtain ⟨v, σ1, σ2, hcon, hmod, hI2⟩ := jd_18 l hB hI hσ
  refine zlc_V (k := 0) (ci := 5) (n := 0) (as := []) (rest := []) (A0 := zAA s) S hcon (by decide) rfl rfl zdk_18 zdi_18 zds_18 zMk_18 (by decide +kernel) rfl (by decide +kernel) (by decide +kernel) ⟨by show cells ≤ 601024; omega, by show slots ≤ 7293034; omega⟩ hl.1 (Nat.le_of_ble_eq_true rfl) (by decide +kernel : decode code 1250 = .ok (.invokevirtual 150, 3)) (hX.K d) (hX.N d) hP hD hS (fun q hq => hq) (fun H1 locs1 hP hD hS hok hvs _ => ?_)
  refine lv_aload_n hx hb (by decide +kernel : decode code 1253 = .ok (.aload_n 2, 1)) rfl (lv_at hl 2 rfl) ?_
  refine zlc_V (k := 9) (ci := 6) (n := 0) (as := []) (rest := [.int (Int32.ofInt v)]) (A0 := zAA s) S (hmod hok) (by decide) rfl rfl zmk_98 zmi_98 zms_98 zMk_98 (by decide +kernel) rfl (by decide +kernel) (by decide +kernel) ⟨by show cells ≤ 601024; omega, by show slots ≤ 7293034; omega⟩ hl.1 (Nat.le_of_ble_eq_true rfl) (by decide +kernel : decode code 1254 = .ok (.invokevirtual 153, 3)) (hX.K d) (hX.N d) hP hD hS (fun q hq => hq) (fun H2 locs2 hP hD hS hok2 hvs _ => ?_)
  refine lv_icmp_eq (tgt := 1568) hx hb (by decide +kernel : decode code 1257 = .ok (.if_icmp .eq 311, 3)) (by decide) (fun _ => ?_) (fun hne => absurd rfl hne)
  exact K d σ2 f H2 locs2 ls cells slots ⟨hd, hok2, hP, hD, hS⟩ hI2 hl (by omega) (by omega)
theorem zdk_19 : Cond.methodLink RL 154 yX4_latenessShifted ∈ zWL := zwl 373 (by decide +kernel) rfl
theorem zdi_19 : Cond.instanceMethod yX4_latenessShifted ∈ zWL := zwl 374 (by decide +kernel) rfl
theorem zds_19 : Cond.selects RX4 yX4_latenessShifted yX4_latenessShifted ∈ zWL := zwl 375 (by decide +kernel) rfl
theorem zmk_100 : Cond.methodLink RL 157 yX5_latenessShifted ∈ zWL := zwl 1176 (by decide +kernel) rfl
theorem zmi_100 : Cond.instanceMethod yX5_latenessShifted ∈ zWL := zwl 1177 (by decide +kernel) rfl
theorem zms_100 : Cond.selects RX5 yX5_latenessShifted yX5_latenessShifted ∈ zWL := zwl 1178 (by decide +kernel) rfl
theorem lc_19 {p : Program} {l : Launch} {e : Env} {s : State} {m : MethodId} {below : List Frame} {meth : Method} {c : Code} {b L : Nat} {xs : Nat → Int32} {D : va_G} {A : Nat → Nat} {cI cQ cL : ClassId} {o i : Nat} {B : Int} {Q : State → Prop} {d : Drawn} {σ : zSt} {f : Nat → Int64} {H : Heap} {locs : List Loc} {ls : Array Slot} {cells slots : Nat} (hX : zLx p s m meth c b L xs D cI cQ cL) (hfl : l.stackTraces = false) (hL : L ≤ 2048) (hi : i + 3 < L) (hB : 2000 ≤ B ∧ B ≤ 500000) (hs : zLs s D A cI cQ cL o d σ f H locs) (hI : Inv σ B) (hl : lv_has ls 9 (zLv b A o i)) (hc : cells ≤ 100 + i) (hsl : slots ≤ 4000 + 6 * i) (K : zNx p l e s m below meth c b D A cI cQ cL o i B Q) :
    W p l e room_1 (s.setDrawn d) m #[Value.ref b] below meth c H locs cells slots Q (F0 m 1262 ls []) := by
  have S := hX.S d
  have hx := S.1
  have hb := S.2.1
  obtain ⟨hd, hσ, hP, hD, hS⟩ := hs
  have hl : lv_has ls 9 [(0, .ref b), (1, .ref (A 0)), (2, .ref (A 9)), (3, .ref o), (4, .int (nI i))] := hl
  refine lv_aload_n hx hb (by decide +kernel : decode code 1262 = .ok (.aload_n 1, 1)) rfl (lv_at hl 1 rfl) ?_
  obtain ⟨v, σ1, σ2, hcon, hmod, hI2⟩ := jd_19 l hB hI hσ
  refine zlc_V (k := 0) (ci := 5) (n := 0) (as := []) (rest := []) (A0 := zAA s) S hcon (by decide) rfl rfl zdk_19 zdi_19 zds_19 zMk_19 (by decide +kernel) rfl (by decide +kernel) (by decide +kernel) ⟨by show cells ≤ 601024; omega, by show slots ≤ 7293034; omega⟩ hl.1 (Nat.le_of_ble_eq_true rfl) (by decide +kernel : decode code 1263 = .ok (.invokevirtual 154, 3)) (hX.K d) (hX.N d) hP hD hS (fun q hq => hq) (fun H1 locs1 hP hD hS hok hvs _ => ?_)
  refine lv_aload_n hx hb (by decide +kernel : decode code 1266 = .ok (.aload_n 2, 1)) rfl (lv_at hl 2 rfl) ?_
  refine zlc_V (k := 9) (ci := 6) (n := 0) (as := []) (rest := [.int (Int32.ofInt v)]) (A0 := zAA s) S (hmod hok) (by decide) rfl rfl zmk_100 zmi_100 zms_100 zMk_100 (by decide +kernel) rfl (by decide +kernel) (by decide +kernel) ⟨by show cells ≤ 601024; omega, by show slots ≤ 7293034; omega⟩ hl.1 (Nat.le_of_ble_eq_true rfl) (by decide +kernel : decode code 1267 = .ok (.invokevirtual 157, 3)) (hX.K d) (hX.N d) hP hD hS (fun q hq => hq) (fun H2 locs2 hP hD hS hok2 hvs _ => ?_)
  refine lv_icmp_eq (tgt := 1568) hx hb (by decide +kernel : decode code 1270 = .ok (.if_icmp .eq 298, 3)) (by decide) (fun _ => ?_) (fun hne => absurd rfl hne)
  exact K d σ2 f H2 locs2 ls cells slots ⟨hd, hok2, hP, hD, hS⟩ hI2 hl (by omega) (by omega)
theorem zhl_20 : Cond.methodLink RL 158 yL_bestReplan ∈ zWL := zwl 837 (by decide +kernel) rfl
theorem zhs_20 : Cond.static yL_bestReplan ∈ zWL := zwl 838 (by decide +kernel) rfl
theorem zhc_20 : Cond.codeWith yL_bestReplan cL_bestReplan 4 (some .int) [(0, 9, 12, 13)] ∈ zWL := zwl 839 (by decide +kernel) rfl
theorem zmk_101 : Cond.methodLink RL 160 yX5_bestReplan ∈ zWL := zwl 1184 (by decide +kernel) rfl
theorem zmi_101 : Cond.instanceMethod yX5_bestReplan ∈ zWL := zwl 1185 (by decide +kernel) rfl
theorem zms_101 : Cond.selects RX5 yX5_bestReplan yX5_bestReplan ∈ zWL := zwl 1186 (by decide +kernel) rfl
theorem lc_20 {p : Program} {l : Launch} {e : Env} {s : State} {m : MethodId} {below : List Frame} {meth : Method} {c : Code} {b L : Nat} {xs : Nat → Int32} {D : va_G} {A : Nat → Nat} {cI cQ cL : ClassId} {o i : Nat} {B : Int} {Q : State → Prop} {d : Drawn} {σ : zSt} {f : Nat → Int64} {H : Heap} {locs : List Loc} {ls : Array Slot} {cells slots : Nat} (hX : zLx p s m meth c b L xs D cI cQ cL) (hfl : l.stackTraces = false) (hL : L ≤ 2048) (hi : i + 3 < L) (hB : 2000 ≤ B ∧ B ≤ 500000) (hs : zLs s D A cI cQ cL o d σ f H locs) (hI : Inv σ B) (hl : lv_has ls 9 (zLv b A o i)) (hc : cells ≤ 100 + i) (hsl : slots ≤ 4000 + 6 * i) (K : zNx p l e s m below meth c b D A cI cQ cL o i B Q) :
    W p l e room_1 (s.setDrawn d) m #[Value.ref b] below meth c H locs cells slots Q (F0 m 1275 ls []) := by
  have S := hX.S d
  have hx := S.1
  have hb := S.2.1
  obtain ⟨hd, hσ, hP, hD, hS⟩ := hs
  have hl : lv_has ls 9 [(0, .ref b), (1, .ref (A 0)), (2, .ref (A 9)), (3, .ref o), (4, .int (nI i))] := hl
  refine lv_aload_n hx hb (by decide +kernel : decode code 1275 = .ok (.aload_n 1, 1)) rfl (lv_at hl 1 rfl) ?_
  refine lv_aload_n hx hb (by decide +kernel : decode code 1276 = .ok (.aload_n 0, 1)) rfl (lv_at hl 0 rfl) ?_
  refine lv_iload hx hb (by decide +kernel : decode code 1277 = .ok (.iload 4, 2)) (lv_at hl 4 rfl) ?_
  refine lv_iconst (v := nI 1) hx hb (by decide +kernel : decode code 1279 = .ok (.iconst 1, 1)) (by decide) ?_
  refine lv_iadd hx hb (by decide +kernel : decode code 1280 = .ok (.iadd, 1)) ?_
  refine zlsld hX hS (j := 1) (by omega) hL (by decide +kernel : decode code 1281 = .ok (.iaload, 1)) ?_
  refine lv_aload_n hx hb (by decide +kernel : decode code 1282 = .ok (.aload_n 3, 1)) rfl (lv_at hl 3 rfl) ?_
  obtain ⟨k, v, σ1, σ2, f1, hcon, hmod, hth, hf, hk3, hI2⟩ := jc_20 l hfl (f := f) hB hI hσ (zxr (xs (i + 1)))
  refine zlh_call (y := yL_bestReplan) (as := [zI (xs (i + 1)).toInt]) (n := 3) (rest := []) (A0 := zAA s) S hcon zhl_20 zhs_20 zhc_20 zlw_ini ⟨by decide +kernel, by decide +kernel⟩ (by decide +kernel) rfl (by decide) ⟨by decide, by decide⟩ ⟨by show cells + 1 ≤ 601024; omega, by show slots + 6 ≤ 7293034; omega⟩ hl.1 (Nat.le_of_ble_eq_true rfl) (by decide +kernel : decode code 1283 = .ok (.invokestatic 158, 3)) (hX.K d) (hX.N d) (hX.Tv d) (hX.Nc d) (hX.Ts d hS) hP hD hS (fun q hq => hq) (fun H1 locs1 hP hD hS hok => ?_)
  refine lv_istore (lv' := [(5, .int (Int32.ofInt k)), (0, .ref b), (1, .ref (A 0)), (2, .ref (A 9)), (3, .ref o), (4, .int (nI i))]) hx hb (by decide +kernel : decode code 1286 = .ok (.istore 5, 2)) hl (by decide) rfl (fun ls hl => ?_)
  refine lv_aload_n hx hb (by decide +kernel : decode code 1288 = .ok (.aload_n 2, 1)) rfl (lv_at hl 3 rfl) ?_
  refine lv_aload_n hx hb (by decide +kernel : decode code 1289 = .ok (.aload_n 0, 1)) rfl (lv_at hl 1 rfl) ?_
  refine lv_iload hx hb (by decide +kernel : decode code 1290 = .ok (.iload 4, 2)) (lv_at hl 5 rfl) ?_
  refine lv_iconst (v := nI 1) hx hb (by decide +kernel : decode code 1292 = .ok (.iconst 1, 1)) (by decide) ?_
  refine lv_iadd hx hb (by decide +kernel : decode code 1293 = .ok (.iadd, 1)) ?_
  refine zlsld hX hS (j := 1) (by omega) hL (by decide +kernel : decode code 1294 = .ok (.iaload, 1)) ?_
  refine zlc_V (k := 9) (ci := 6) (n := 1) (as := [zI (xs (i + 1)).toInt]) (rest := []) (A0 := zAA s) S (hmod hok) (by decide) rfl rfl zmk_101 zmi_101 zms_101 zMk_101 (by decide +kernel) rfl (by decide +kernel) (by decide +kernel) ⟨by show cells + 1 ≤ 601024; omega, by show slots + 6 ≤ 7293034; omega⟩ hl.1 (Nat.le_of_ble_eq_true rfl) (by decide +kernel : decode code 1295 = .ok (.invokevirtual 160, 3)) (hX.K d) (hX.N d) hP hD hS (fun q hq => hq) (fun H2 locs2 hP hD hS hok2 hvs _ => ?_)
  exact law_tail (p0 := 1298) (off := 240) hX (by omega) (by decide +kernel : decode code 1298 = .ok (.istore 6, 2)) (by decide +kernel : decode code 1300 = .ok (.aload_n 2, 1)) (by decide +kernel : decode code 1301 = .ok (.invokevirtual 92, 3)) (by decide +kernel : decode code 1304 = .ok (.iload 5, 2)) (by decide +kernel : decode code 1306 = .ok (.if_icmp .eq 5, 3)) (by decide +kernel : decode code 1311 = .ok (.iload 5, 2)) (by decide +kernel : decode code 1313 = .ok (.ifCond .ne 15, 3)) (by decide +kernel : decode code 1316 = .ok (.aload_n 3, 1)) (by decide +kernel : decode code 1317 = .ok (.iconst 0, 1)) (by decide +kernel : decode code 1318 = .ok (.laload, 1)) (by decide +kernel : decode code 1319 = .ok (.iload 6, 2)) (by decide +kernel : decode code 1321 = .ok (.i2l, 1)) (by decide +kernel : decode code 1322 = .ok (.lcmp, 1)) (by decide +kernel : decode code 1323 = .ok (.ifCond .eq 5, 3)) (by decide +kernel : decode code 1328 = .ok (.goto 240, 3)) (by decide) ⟨hd, hok2, hP, hD, hS⟩ hI2 hth hk3 hf hl (by omega) (by omega) K
theorem zhl_21 : Cond.methodLink RL 161 yL_bestOvertime ∈ zWL := zwl 853 (by decide +kernel) rfl
theorem zhs_21 : Cond.static yL_bestOvertime ∈ zWL := zwl 854 (by decide +kernel) rfl
theorem zhc_21 : Cond.codeWith yL_bestOvertime cL_bestOvertime 4 (some .int) [(0, 9, 12, 13)] ∈ zWL := zwl 855 (by decide +kernel) rfl
theorem zmk_102 : Cond.methodLink RL 163 yX5_bestOvertime ∈ zWL := zwl 1190 (by decide +kernel) rfl
theorem zmi_102 : Cond.instanceMethod yX5_bestOvertime ∈ zWL := zwl 1191 (by decide +kernel) rfl
theorem zms_102 : Cond.selects RX5 yX5_bestOvertime yX5_bestOvertime ∈ zWL := zwl 1192 (by decide +kernel) rfl
theorem lc_21 {p : Program} {l : Launch} {e : Env} {s : State} {m : MethodId} {below : List Frame} {meth : Method} {c : Code} {b L : Nat} {xs : Nat → Int32} {D : va_G} {A : Nat → Nat} {cI cQ cL : ClassId} {o i : Nat} {B : Int} {Q : State → Prop} {d : Drawn} {σ : zSt} {f : Nat → Int64} {H : Heap} {locs : List Loc} {ls : Array Slot} {cells slots : Nat} (hX : zLx p s m meth c b L xs D cI cQ cL) (hfl : l.stackTraces = false) (hL : L ≤ 2048) (hi : i + 3 < L) (hB : 2000 ≤ B ∧ B ≤ 500000) (hs : zLs s D A cI cQ cL o d σ f H locs) (hI : Inv σ B) (hl : lv_has ls 9 (zLv b A o i)) (hc : cells ≤ 100 + i) (hsl : slots ≤ 4000 + 6 * i) (K : zNx p l e s m below meth c b D A cI cQ cL o i B Q) :
    W p l e room_1 (s.setDrawn d) m #[Value.ref b] below meth c H locs cells slots Q (F0 m 1331 ls []) := by
  have S := hX.S d
  have hx := S.1
  have hb := S.2.1
  obtain ⟨hd, hσ, hP, hD, hS⟩ := hs
  have hl : lv_has ls 9 [(0, .ref b), (1, .ref (A 0)), (2, .ref (A 9)), (3, .ref o), (4, .int (nI i))] := hl
  refine lv_aload_n hx hb (by decide +kernel : decode code 1331 = .ok (.aload_n 1, 1)) rfl (lv_at hl 1 rfl) ?_
  refine lv_aload_n hx hb (by decide +kernel : decode code 1332 = .ok (.aload_n 0, 1)) rfl (lv_at hl 0 rfl) ?_
  refine lv_iload hx hb (by decide +kernel : decode code 1333 = .ok (.iload 4, 2)) (lv_at hl 4 rfl) ?_
  refine lv_iconst (v := nI 1) hx hb (by decide +kernel : decode code 1335 = .ok (.iconst 1, 1)) (by decide) ?_
  refine lv_iadd hx hb (by decide +kernel : decode code 1336 = .ok (.iadd, 1)) ?_
  refine zlsld hX hS (j := 1) (by omega) hL (by decide +kernel : decode code 1337 = .ok (.iaload, 1)) ?_
  refine lv_aload_n hx hb (by decide +kernel : decode code 1338 = .ok (.aload_n 3, 1)) rfl (lv_at hl 3 rfl) ?_
  obtain ⟨k, v, σ1, σ2, f1, hcon, hmod, hth, hf, hk3, hI2⟩ := jc_21 l hfl (f := f) hB hI hσ (zxr (xs (i + 1)))
  refine zlh_call (y := yL_bestOvertime) (as := [zI (xs (i + 1)).toInt]) (n := 3) (rest := []) (A0 := zAA s) S hcon zhl_21 zhs_21 zhc_21 zlw_ini ⟨by decide +kernel, by decide +kernel⟩ (by decide +kernel) rfl (by decide) ⟨by decide, by decide⟩ ⟨by show cells + 1 ≤ 601024; omega, by show slots + 6 ≤ 7293034; omega⟩ hl.1 (Nat.le_of_ble_eq_true rfl) (by decide +kernel : decode code 1339 = .ok (.invokestatic 161, 3)) (hX.K d) (hX.N d) (hX.Tv d) (hX.Nc d) (hX.Ts d hS) hP hD hS (fun q hq => hq) (fun H1 locs1 hP hD hS hok => ?_)
  refine lv_istore (lv' := [(5, .int (Int32.ofInt k)), (0, .ref b), (1, .ref (A 0)), (2, .ref (A 9)), (3, .ref o), (4, .int (nI i))]) hx hb (by decide +kernel : decode code 1342 = .ok (.istore 5, 2)) hl (by decide) rfl (fun ls hl => ?_)
  refine lv_aload_n hx hb (by decide +kernel : decode code 1344 = .ok (.aload_n 2, 1)) rfl (lv_at hl 3 rfl) ?_
  refine lv_aload_n hx hb (by decide +kernel : decode code 1345 = .ok (.aload_n 0, 1)) rfl (lv_at hl 1 rfl) ?_
  refine lv_iload hx hb (by decide +kernel : decode code 1346 = .ok (.iload 4, 2)) (lv_at hl 5 rfl) ?_
  refine lv_iconst (v := nI 1) hx hb (by decide +kernel : decode code 1348 = .ok (.iconst 1, 1)) (by decide) ?_
  refine lv_iadd hx hb (by decide +kernel : decode code 1349 = .ok (.iadd, 1)) ?_
  refine zlsld hX hS (j := 1) (by omega) hL (by decide +kernel : decode code 1350 = .ok (.iaload, 1)) ?_
  refine zlc_V (k := 9) (ci := 6) (n := 1) (as := [zI (xs (i + 1)).toInt]) (rest := []) (A0 := zAA s) S (hmod hok) (by decide) rfl rfl zmk_102 zmi_102 zms_102 zMk_102 (by decide +kernel) rfl (by decide +kernel) (by decide +kernel) ⟨by show cells + 1 ≤ 601024; omega, by show slots + 6 ≤ 7293034; omega⟩ hl.1 (Nat.le_of_ble_eq_true rfl) (by decide +kernel : decode code 1351 = .ok (.invokevirtual 163, 3)) (hX.K d) (hX.N d) hP hD hS (fun q hq => hq) (fun H2 locs2 hP hD hS hok2 hvs _ => ?_)
  exact law_tail (p0 := 1354) (off := 184) hX (by omega) (by decide +kernel : decode code 1354 = .ok (.istore 6, 2)) (by decide +kernel : decode code 1356 = .ok (.aload_n 2, 1)) (by decide +kernel : decode code 1357 = .ok (.invokevirtual 92, 3)) (by decide +kernel : decode code 1360 = .ok (.iload 5, 2)) (by decide +kernel : decode code 1362 = .ok (.if_icmp .eq 5, 3)) (by decide +kernel : decode code 1367 = .ok (.iload 5, 2)) (by decide +kernel : decode code 1369 = .ok (.ifCond .ne 15, 3)) (by decide +kernel : decode code 1372 = .ok (.aload_n 3, 1)) (by decide +kernel : decode code 1373 = .ok (.iconst 0, 1)) (by decide +kernel : decode code 1374 = .ok (.laload, 1)) (by decide +kernel : decode code 1375 = .ok (.iload 6, 2)) (by decide +kernel : decode code 1377 = .ok (.i2l, 1)) (by decide +kernel : decode code 1378 = .ok (.lcmp, 1)) (by decide +kernel : decode code 1379 = .ok (.ifCond .eq 5, 3)) (by decide +kernel : decode code 1384 = .ok (.goto 184, 3)) (by decide) ⟨hd, hok2, hP, hD, hS⟩ hI2 hth hk3 hf hl (by omega) (by omega) K
theorem zhl_22 : Cond.methodLink RL 169 yL_append ∈ zWL := zwl 864 (by decide +kernel) rfl
theorem zhs_22 : Cond.static yL_append ∈ zWL := zwl 865 (by decide +kernel) rfl
theorem zhc_22 : Cond.codeWith yL_append cL_append 4 (some .int) [(0, 9, 12, 13), (0, 9, 15, 19)] ∈ zWL := zwl 866 (by decide +kernel) rfl
theorem zmk_103 : Cond.methodLink RL 171 yX5_append ∈ zWL := zwl 1198 (by decide +kernel) rfl
theorem zmi_103 : Cond.instanceMethod yX5_append ∈ zWL := zwl 1199 (by decide +kernel) rfl
theorem zms_103 : Cond.selects RX5 yX5_append yX5_append ∈ zWL := zwl 1200 (by decide +kernel) rfl
theorem lc_23 {p : Program} {l : Launch} {e : Env} {s : State} {m : MethodId} {below : List Frame} {meth : Method} {c : Code} {b L : Nat} {xs : Nat → Int32} {D : va_G} {A : Nat → Nat} {cI cQ cL : ClassId} {o i : Nat} {B : Int} {Q : State → Prop} {d : Drawn} {σ : zSt} {f : Nat → Int64} {H : Heap} {locs : List Loc} {ls : Array Slot} {cells slots : Nat} (hX : zLx p s m meth c b L xs D cI cQ cL) (hfl : l.stackTraces = false) (hL : L ≤ 2048) (hi : i + 3 < L) (hB : 2000 ≤ B ∧ B ≤ 500000) (hs : zLs s D A cI cQ cL o d σ f H locs) (hI : Inv σ B) (hl : lv_has ls 9 (zLv b A o i)) (hc : cells ≤ 100 + i) (hsl : slots ≤ 4000 + 6 * i) (K : zNx p l e s m below meth c b D A cI cQ cL o i B Q) :
    W p l e room_1 (s.setDrawn d) m #[Value.ref b] below meth c H locs cells slots Q (F0 m 1428 ls []) := by
  have S := hX.S d
  have hx := S.1
  have hb := S.2.1
  obtain ⟨hd, hσ, hP, hD, hS⟩ := hs
  have hl : lv_has ls 9 [(0, .ref b), (1, .ref (A 0)), (2, .ref (A 9)), (3, .ref o), (4, .int (nI i))] := hl
  refine lv_aload_n hx hb (by decide +kernel : decode code 1428 = .ok (.aload_n 1, 1)) rfl (lv_at hl 1 rfl) ?_
  refine lv_aload_n hx hb (by decide +kernel : decode code 1429 = .ok (.aload_n 0, 1)) rfl (lv_at hl 0 rfl) ?_
  refine lv_iload hx hb (by decide +kernel : decode code 1430 = .ok (.iload 4, 2)) (lv_at hl 4 rfl) ?_
  refine lv_iconst (v := nI 1) hx hb (by decide +kernel : decode code 1432 = .ok (.iconst 1, 1)) (by decide) ?_
  refine lv_iadd hx hb (by decide +kernel : decode code 1433 = .ok (.iadd, 1)) ?_
  refine zlsld hX hS (j := 1) (by omega) hL (by decide +kernel : decode code 1434 = .ok (.iaload, 1)) ?_
  refine lv_aload_n hx hb (by decide +kernel : decode code 1435 = .ok (.aload_n 3, 1)) rfl (lv_at hl 3 rfl) ?_
  obtain ⟨k, v, σ1, σ2, f1, hcon, hmod, hth, hf, hk3, hI2⟩ := jc_22 l hfl (f := f) hB hI hσ (zxr (xs (i + 1)))
  refine zlh_call (y := yL_append) (as := [zI (xs (i + 1)).toInt]) (n := 3) (rest := []) (A0 := zAA s) S hcon zhl_22 zhs_22 zhc_22 zlw_ini ⟨by decide +kernel, by decide +kernel⟩ (by decide +kernel) rfl (by decide) ⟨by decide, by decide⟩ ⟨by show cells + 1 ≤ 601024; omega, by show slots + 6 ≤ 7293034; omega⟩ hl.1 (Nat.le_of_ble_eq_true rfl) (by decide +kernel : decode code 1436 = .ok (.invokestatic 169, 3)) (hX.K d) (hX.N d) (hX.Tv d) (hX.Nc d) (hX.Ts d hS) hP hD hS (fun q hq => hq) (fun H1 locs1 hP hD hS hok => ?_)
  refine lv_istore (lv' := [(5, .int (Int32.ofInt k)), (0, .ref b), (1, .ref (A 0)), (2, .ref (A 9)), (3, .ref o), (4, .int (nI i))]) hx hb (by decide +kernel : decode code 1439 = .ok (.istore 5, 2)) hl (by decide) rfl (fun ls hl => ?_)
  refine lv_aload_n hx hb (by decide +kernel : decode code 1441 = .ok (.aload_n 2, 1)) rfl (lv_at hl 3 rfl) ?_
  refine lv_aload_n hx hb (by decide +kernel : decode code 1442 = .ok (.aload_n 0, 1)) rfl (lv_at hl 1 rfl) ?_
  refine lv_iload hx hb (by decide +kernel : decode code 1443 = .ok (.iload 4, 2)) (lv_at hl 5 rfl) ?_
  refine lv_iconst (v := nI 1) hx hb (by decide +kernel : decode code 1445 = .ok (.iconst 1, 1)) (by decide) ?_
  refine lv_iadd hx hb (by decide +kernel : decode code 1446 = .ok (.iadd, 1)) ?_
  refine zlsld hX hS (j := 1) (by omega) hL (by decide +kernel : decode code 1447 = .ok (.iaload, 1)) ?_
  refine zlc_V (k := 9) (ci := 6) (n := 1) (as := [zI (xs (i + 1)).toInt]) (rest := []) (A0 := zAA s) S (hmod hok) (by decide) rfl rfl zmk_103 zmi_103 zms_103 zMk_103 (by decide +kernel) rfl (by decide +kernel) (by decide +kernel) ⟨by show cells + 1 ≤ 601024; omega, by show slots + 6 ≤ 7293034; omega⟩ hl.1 (Nat.le_of_ble_eq_true rfl) (by decide +kernel : decode code 1448 = .ok (.invokevirtual 171, 3)) (hX.K d) (hX.N d) hP hD hS (fun q hq => hq) (fun H2 locs2 hP hD hS hok2 hvs _ => ?_)
  exact law_tail (p0 := 1451) (off := 87) hX (by omega) (by decide +kernel : decode code 1451 = .ok (.istore 6, 2)) (by decide +kernel : decode code 1453 = .ok (.aload_n 2, 1)) (by decide +kernel : decode code 1454 = .ok (.invokevirtual 92, 3)) (by decide +kernel : decode code 1457 = .ok (.iload 5, 2)) (by decide +kernel : decode code 1459 = .ok (.if_icmp .eq 5, 3)) (by decide +kernel : decode code 1464 = .ok (.iload 5, 2)) (by decide +kernel : decode code 1466 = .ok (.ifCond .ne 15, 3)) (by decide +kernel : decode code 1469 = .ok (.aload_n 3, 1)) (by decide +kernel : decode code 1470 = .ok (.iconst 0, 1)) (by decide +kernel : decode code 1471 = .ok (.laload, 1)) (by decide +kernel : decode code 1472 = .ok (.iload 6, 2)) (by decide +kernel : decode code 1474 = .ok (.i2l, 1)) (by decide +kernel : decode code 1475 = .ok (.lcmp, 1)) (by decide +kernel : decode code 1476 = .ok (.ifCond .eq 5, 3)) (by decide +kernel : decode code 1481 = .ok (.goto 87, 3)) (by decide) ⟨hd, hok2, hP, hD, hS⟩ hI2 hth hk3 hf hl (by omega) (by omega) K
theorem zdk_23 : Cond.methodLink RL 172 yX4_clearText ∈ zWL := zwl 398 (by decide +kernel) rfl
theorem zdi_23 : Cond.instanceMethod yX4_clearText ∈ zWL := zwl 399 (by decide +kernel) rfl
theorem zds_23 : Cond.selects RX4 yX4_clearText yX4_clearText ∈ zWL := zwl 400 (by decide +kernel) rfl
theorem zmk_104 : Cond.methodLink RL 175 yX5_clearText ∈ zWL := zwl 1202 (by decide +kernel) rfl
theorem zmi_104 : Cond.instanceMethod yX5_clearText ∈ zWL := zwl 1203 (by decide +kernel) rfl
theorem zms_104 : Cond.selects RX5 yX5_clearText yX5_clearText ∈ zWL := zwl 1204 (by decide +kernel) rfl
theorem lc_24 {p : Program} {l : Launch} {e : Env} {s : State} {m : MethodId} {below : List Frame} {meth : Method} {c : Code} {b L : Nat} {xs : Nat → Int32} {D : va_G} {A : Nat → Nat} {cI cQ cL : ClassId} {o i : Nat} {B : Int} {Q : State → Prop} {d : Drawn} {σ : zSt} {f : Nat → Int64} {H : Heap} {locs : List Loc} {ls : Array Slot} {cells slots : Nat} (hX : zLx p s m meth c b L xs D cI cQ cL) (hfl : l.stackTraces = false) (hL : L ≤ 2048) (hi : i + 3 < L) (hB : 2000 ≤ B ∧ B ≤ 500000) (hs : zLs s D A cI cQ cL o d σ f H locs) (hI : Inv σ B) (hl : lv_has ls 9 (zLv b A o i)) (hc : cells ≤ 100 + i) (hsl : slots ≤ 4000 + 6 * i) (K : zNx p l e s m below meth c b D A cI cQ cL o i B Q) :
    W p l e room_1 (s.setDrawn d) m #[Value.ref b] below meth c H locs cells slots Q (F0 m 1484 ls []) := by
  have S := hX.S d
  have hx := S.1
  have hb := S.2.1
  obtain ⟨hd, hσ, hP, hD, hS⟩ := hs
  have hl : lv_has ls 9 [(0, .ref b), (1, .ref (A 0)), (2, .ref (A 9)), (3, .ref o), (4, .int (nI i))] := hl
  refine lv_aload_n hx hb (by decide +kernel : decode code 1484 = .ok (.aload_n 1, 1)) rfl (lv_at hl 1 rfl) ?_
  obtain ⟨v, σ1, σ2, hcon, hmod, hI2⟩ := jd_23 l hB hI hσ
  refine zlc_V (k := 0) (ci := 5) (n := 0) (as := []) (rest := []) (A0 := zAA s) S hcon (by decide) rfl rfl zdk_23 zdi_23 zds_23 zMk_23 (by decide +kernel) rfl (by decide +kernel) (by decide +kernel) ⟨by show cells ≤ 601024; omega, by show slots ≤ 7293034; omega⟩ hl.1 (Nat.le_of_ble_eq_true rfl) (by decide +kernel : decode code 1485 = .ok (.invokevirtual 172, 3)) (hX.K d) (hX.N d) hP hD hS (fun q hq => hq) (fun H1 locs1 hP hD hS hok hvs _ => ?_)
  refine lv_aload_n hx hb (by decide +kernel : decode code 1488 = .ok (.aload_n 2, 1)) rfl (lv_at hl 2 rfl) ?_
  refine zlc_V (k := 9) (ci := 6) (n := 0) (as := []) (rest := [.int (Int32.ofInt v)]) (A0 := zAA s) S (hmod hok) (by decide) rfl rfl zmk_104 zmi_104 zms_104 zMk_104 (by decide +kernel) rfl (by decide +kernel) (by decide +kernel) ⟨by show cells ≤ 601024; omega, by show slots ≤ 7293034; omega⟩ hl.1 (Nat.le_of_ble_eq_true rfl) (by decide +kernel : decode code 1489 = .ok (.invokevirtual 175, 3)) (hX.K d) (hX.N d) hP hD hS (fun q hq => hq) (fun H2 locs2 hP hD hS hok2 hvs _ => ?_)
  refine lv_icmp_eq (tgt := 1568) hx hb (by decide +kernel : decode code 1492 = .ok (.if_icmp .eq 76, 3)) (by decide) (fun _ => ?_) (fun hne => absurd rfl hne)
  exact K d σ2 f H2 locs2 ls cells slots ⟨hd, hok2, hP, hD, hS⟩ hI2 hl (by omega) (by omega)
theorem zdk_24 : Cond.methodLink RL 176 yX4_carryOut ∈ zWL := zwl 402 (by decide +kernel) rfl
theorem zdi_24 : Cond.instanceMethod yX4_carryOut ∈ zWL := zwl 403 (by decide +kernel) rfl
theorem zds_24 : Cond.selects RX4 yX4_carryOut yX4_carryOut ∈ zWL := zwl 404 (by decide +kernel) rfl
theorem zmk_114 : Cond.methodLink RL 179 yX5_carryOut ∈ zWL := zwl 1206 (by decide +kernel) rfl
theorem zmi_114 : Cond.instanceMethod yX5_carryOut ∈ zWL := zwl 1207 (by decide +kernel) rfl
theorem zms_114 : Cond.selects RX5 yX5_carryOut yX5_carryOut ∈ zWL := zwl 1208 (by decide +kernel) rfl
theorem lc_25 {p : Program} {l : Launch} {e : Env} {s : State} {m : MethodId} {below : List Frame} {meth : Method} {c : Code} {b L : Nat} {xs : Nat → Int32} {D : va_G} {A : Nat → Nat} {cI cQ cL : ClassId} {o i : Nat} {B : Int} {Q : State → Prop} {d : Drawn} {σ : zSt} {f : Nat → Int64} {H : Heap} {locs : List Loc} {ls : Array Slot} {cells slots : Nat} (hX : zLx p s m meth c b L xs D cI cQ cL) (hfl : l.stackTraces = false) (hL : L ≤ 2048) (hi : i + 3 < L) (hB : 2000 ≤ B ∧ B ≤ 500000) (hs : zLs s D A cI cQ cL o d σ f H locs) (hI : Inv σ B) (hl : lv_has ls 9 (zLv b A o i)) (hc : cells ≤ 100 + i) (hsl : slots ≤ 4000 + 6 * i) (K : zNx p l e s m below meth c b D A cI cQ cL o i B Q) :
    W p l e room_1 (s.setDrawn d) m #[Value.ref b] below meth c H locs cells slots Q (F0 m 1497 ls []) := by
  have S := hX.S d
  have hx := S.1
  have hb := S.2.1
  obtain ⟨hd, hσ, hP, hD, hS⟩ := hs
  have hl : lv_has ls 9 [(0, .ref b), (1, .ref (A 0)), (2, .ref (A 9)), (3, .ref o), (4, .int (nI i))] := hl
  refine lv_aload_n hx hb (by decide +kernel : decode code 1497 = .ok (.aload_n 1, 1)) rfl (lv_at hl 1 rfl) ?_
  obtain ⟨v, σ1, σ2, hcon, hmod, hI2⟩ := jd_24 l hB hI hσ
  refine zlc_V (k := 0) (ci := 5) (n := 0) (as := []) (rest := []) (A0 := zAA s) S hcon (by decide) rfl rfl zdk_24 zdi_24 zds_24 zMk_24 (by decide +kernel) rfl (by decide +kernel) (by decide +kernel) ⟨by show cells ≤ 601024; omega, by show slots ≤ 7293034; omega⟩ hl.1 (Nat.le_of_ble_eq_true rfl) (by decide +kernel : decode code 1498 = .ok (.invokevirtual 176, 3)) (hX.K d) (hX.N d) hP hD hS (fun q hq => hq) (fun H1 locs1 hP hD hS hok hvs _ => ?_)
  refine lv_aload_n hx hb (by decide +kernel : decode code 1501 = .ok (.aload_n 2, 1)) rfl (lv_at hl 2 rfl) ?_
  refine zlc_V (k := 9) (ci := 6) (n := 0) (as := []) (rest := [.int (Int32.ofInt v)]) (A0 := zAA s) S (hmod hok) (by decide) rfl rfl zmk_114 zmi_114 zms_114 zMk_114 (by decide +kernel) rfl (by decide +kernel) (by decide +kernel) ⟨by show cells ≤ 601024; omega, by show slots ≤ 7293034; omega⟩ hl.1 (Nat.le_of_ble_eq_true rfl) (by decide +kernel : decode code 1502 = .ok (.invokevirtual 179, 3)) (hX.K d) (hX.N d) hP hD hS (fun q hq => hq) (fun H2 locs2 hP hD hS hok2 hvs _ => ?_)
  refine lv_icmp_eq (tgt := 1568) hx hb (by decide +kernel : decode code 1505 = .ok (.if_icmp .eq 63, 3)) (by decide) (fun _ => ?_) (fun hne => absurd rfl hne)
  exact K d σ2 f H2 locs2 ls cells slots ⟨hd, hok2, hP, hD, hS⟩ hI2 hl (by omega) (by omega)
theorem zhl_25 : Cond.methodLink RL 180 yL_undo ∈ zWL := zwl 873 (by decide +kernel) rfl
theorem zhs_25 : Cond.static yL_undo ∈ zWL := zwl 874 (by decide +kernel) rfl
theorem zhc_25 : Cond.codeWith yL_undo cL_undo 3 (some .int) [(0, 8, 11, 19)] ∈ zWL := zwl 875 (by decide +kernel) rfl
theorem zmk_115 : Cond.methodLink RL 182 yX5_undo ∈ zWL := zwl 1246 (by decide +kernel) rfl
theorem zmi_115 : Cond.instanceMethod yX5_undo ∈ zWL := zwl 1247 (by decide +kernel) rfl
theorem zms_115 : Cond.selects RX5 yX5_undo yX5_undo ∈ zWL := zwl 1248 (by decide +kernel) rfl
theorem lc_26 {p : Program} {l : Launch} {e : Env} {s : State} {m : MethodId} {below : List Frame} {meth : Method} {c : Code} {b L : Nat} {xs : Nat → Int32} {D : va_G} {A : Nat → Nat} {cI cQ cL : ClassId} {o i : Nat} {B : Int} {Q : State → Prop} {d : Drawn} {σ : zSt} {f : Nat → Int64} {H : Heap} {locs : List Loc} {ls : Array Slot} {cells slots : Nat} (hX : zLx p s m meth c b L xs D cI cQ cL) (hfl : l.stackTraces = false) (hL : L ≤ 2048) (hi : i + 3 < L) (hB : 2000 ≤ B ∧ B ≤ 500000) (hs : zLs s D A cI cQ cL o d σ f H locs) (hI : Inv σ B) (hl : lv_has ls 9 (zLv b A o i)) (hc : cells ≤ 100 + i) (hsl : slots ≤ 4000 + 6 * i) (K : zNx p l e s m below meth c b D A cI cQ cL o i B Q) :
    W p l e room_1 (s.setDrawn d) m #[Value.ref b] below meth c H locs cells slots Q (F0 m 1510 ls []) := by
  have S := hX.S d
  have hx := S.1
  have hb := S.2.1
  obtain ⟨hd, hσ, hP, hD, hS⟩ := hs
  have hl : lv_has ls 9 [(0, .ref b), (1, .ref (A 0)), (2, .ref (A 9)), (3, .ref o), (4, .int (nI i))] := hl
  refine lv_aload_n hx hb (by decide +kernel : decode code 1510 = .ok (.aload_n 1, 1)) rfl (lv_at hl 1 rfl) ?_
  refine lv_aload_n hx hb (by decide +kernel : decode code 1511 = .ok (.aload_n 3, 1)) rfl (lv_at hl 3 rfl) ?_
  obtain ⟨k, v, σ1, σ2, f1, hcon, hmod, hth, hf, hk3, hI2⟩ := jc_25 l hfl (f := f) hB hI hσ
  refine zlh_call (y := yL_undo) (as := []) (n := 2) (rest := []) (A0 := zAA s) S hcon zhl_25 zhs_25 zhc_25 zlw_ini ⟨by decide +kernel, by decide +kernel⟩ (by decide +kernel) rfl (by decide) ⟨by decide, by decide⟩ ⟨by show cells + 1 ≤ 601024; omega, by show slots + 6 ≤ 7293034; omega⟩ hl.1 (Nat.le_of_ble_eq_true rfl) (by decide +kernel : decode code 1512 = .ok (.invokestatic 180, 3)) (hX.K d) (hX.N d) (hX.Tv d) (hX.Nc d) (hX.Ts d hS) hP hD hS (fun q hq => hq) (fun H1 locs1 hP hD hS hok => ?_)
  refine lv_istore (lv' := [(5, .int (Int32.ofInt k)), (0, .ref b), (1, .ref (A 0)), (2, .ref (A 9)), (3, .ref o), (4, .int (nI i))]) hx hb (by decide +kernel : decode code 1515 = .ok (.istore 5, 2)) hl (by decide) rfl (fun ls hl => ?_)
  refine lv_aload_n hx hb (by decide +kernel : decode code 1517 = .ok (.aload_n 2, 1)) rfl (lv_at hl 3 rfl) ?_
  refine zlc_V (k := 9) (ci := 6) (n := 0) (as := []) (rest := []) (A0 := zAA s) S (hmod hok) (by decide) rfl rfl zmk_115 zmi_115 zms_115 zMk_115 (by decide +kernel) rfl (by decide +kernel) (by decide +kernel) ⟨by show cells + 1 ≤ 601024; omega, by show slots + 6 ≤ 7293034; omega⟩ hl.1 (Nat.le_of_ble_eq_true rfl) (by decide +kernel : decode code 1518 = .ok (.invokevirtual 182, 3)) (hX.K d) (hX.N d) hP hD hS (fun q hq => hq) (fun H2 locs2 hP hD hS hok2 hvs _ => ?_)
  exact law_tail (p0 := 1521) (off := 17) hX (by omega) (by decide +kernel : decode code 1521 = .ok (.istore 6, 2)) (by decide +kernel : decode code 1523 = .ok (.aload_n 2, 1)) (by decide +kernel : decode code 1524 = .ok (.invokevirtual 92, 3)) (by decide +kernel : decode code 1527 = .ok (.iload 5, 2)) (by decide +kernel : decode code 1529 = .ok (.if_icmp .eq 5, 3)) (by decide +kernel : decode code 1534 = .ok (.iload 5, 2)) (by decide +kernel : decode code 1536 = .ok (.ifCond .ne 15, 3)) (by decide +kernel : decode code 1539 = .ok (.aload_n 3, 1)) (by decide +kernel : decode code 1540 = .ok (.iconst 0, 1)) (by decide +kernel : decode code 1541 = .ok (.laload, 1)) (by decide +kernel : decode code 1542 = .ok (.iload 6, 2)) (by decide +kernel : decode code 1544 = .ok (.i2l, 1)) (by decide +kernel : decode code 1545 = .ok (.lcmp, 1)) (by decide +kernel : decode code 1546 = .ok (.ifCond .eq 5, 3)) (by decide +kernel : decode code 1551 = .ok (.goto 17, 3)) (by decide) ⟨hd, hok2, hP, hD, hS⟩ hI2 hth hk3 hf hl (by omega) (by omega) K
theorem zdk_26 : Cond.methodLink RL 183 yX4_digest ∈ zWL := zwl 516 (by decide +kernel) rfl
theorem zdi_26 : Cond.instanceMethod yX4_digest ∈ zWL := zwl 517 (by decide +kernel) rfl
theorem zds_26 : Cond.selects RX4 yX4_digest yX4_digest ∈ zWL := zwl 518 (by decide +kernel) rfl
theorem zmk_116 : Cond.methodLink RL 187 yX5_digest ∈ zWL := zwl 1250 (by decide +kernel) rfl
theorem zmi_116 : Cond.instanceMethod yX5_digest ∈ zWL := zwl 1251 (by decide +kernel) rfl
theorem zms_116 : Cond.selects RX5 yX5_digest yX5_digest ∈ zWL := zwl 1252 (by decide +kernel) rfl
theorem lc_27 {p : Program} {l : Launch} {e : Env} {s : State} {m : MethodId} {below : List Frame} {meth : Method} {c : Code} {b L : Nat} {xs : Nat → Int32} {D : va_G} {A : Nat → Nat} {cI cQ cL : ClassId} {o i : Nat} {B : Int} {Q : State → Prop} {d : Drawn} {σ : zSt} {f : Nat → Int64} {H : Heap} {locs : List Loc} {ls : Array Slot} {cells slots : Nat} (hX : zLx p s m meth c b L xs D cI cQ cL) (hfl : l.stackTraces = false) (hL : L ≤ 2048) (hi : i + 3 < L) (hB : 2000 ≤ B ∧ B ≤ 500000) (hs : zLs s D A cI cQ cL o d σ f H locs) (hI : Inv σ B) (hl : lv_has ls 9 (zLv b A o i)) (hc : cells ≤ 100 + i) (hsl : slots ≤ 4000 + 6 * i) (K : zNx p l e s m below meth c b D A cI cQ cL o i B Q) :
    W p l e room_1 (s.setDrawn d) m #[Value.ref b] below meth c H locs cells slots Q (F0 m 1554 ls []) := by
  have S := hX.S d
  have hx := S.1
  have hb := S.2.1
  obtain ⟨hd, hσ, hP, hD, hS⟩ := hs
  have hl : lv_has ls 9 [(0, .ref b), (1, .ref (A 0)), (2, .ref (A 9)), (3, .ref o), (4, .int (nI i))] := hl
  refine lv_aload_n hx hb (by decide +kernel : decode code 1554 = .ok (.aload_n 1, 1)) rfl (lv_at hl 1 rfl) ?_
  obtain ⟨v, σ1, σ2, hcon, hmod, hI2⟩ := jd_26 l hB hI hσ
  refine zlc_V (k := 0) (ci := 5) (n := 0) (as := []) (rest := []) (A0 := zAA s) S hcon (by decide) rfl rfl zdk_26 zdi_26 zds_26 zMk_26 (by decide +kernel) rfl (by decide +kernel) (by decide +kernel) ⟨by show cells ≤ 601024; omega, by show slots ≤ 7293034; omega⟩ hl.1 (Nat.le_of_ble_eq_true rfl) (by decide +kernel : decode code 1555 = .ok (.invokevirtual 183, 3)) (hX.K d) (hX.N d) hP hD hS (fun q hq => hq) (fun H1 locs1 hP hD hS hok hvs _ => ?_)
  refine lv_aload_n hx hb (by decide +kernel : decode code 1558 = .ok (.aload_n 2, 1)) rfl (lv_at hl 2 rfl) ?_
  refine zlc_V (k := 9) (ci := 6) (n := 0) (as := []) (rest := [.long v]) (A0 := zAA s) S (hmod hok) (by decide) rfl rfl zmk_116 zmi_116 zms_116 zMk_116 (by decide +kernel) rfl (by decide +kernel) (by decide +kernel) ⟨by show cells ≤ 601024; omega, by show slots ≤ 7293034; omega⟩ hl.1 (Nat.le_of_ble_eq_true rfl) (by decide +kernel : decode code 1559 = .ok (.invokevirtual 187, 3)) (hX.K d) (hX.N d) hP hD hS (fun q hq => hq) (fun H2 locs2 hP hD hS hok2 hvs _ => ?_)
  refine W.lcmp hx hb (by decide +kernel : decode code 1562 = .ok (.lcmp, 1)) ?_
  refine lv_if_eq (tgt := 1568) hx hb (by decide +kernel : decode code 1563 = .ok (.ifCond .eq 5, 3)) (by decide) (fun _ => ?_) (fun hne => absurd ((lg_cmp_eq _ _).mpr rfl) hne)
  exact K d σ2 f H2 locs2 ls cells slots ⟨hd, hok2, hP, hD, hS⟩ hI2 hl (by omega) (by omega)
