/-! ===== 74: usage in the law ===== -/
section ZLD
variable {p : Program} {l : Launch} {e : Env} {R : Room} {s : State} {mid : MethodId} {args : Array Value} {below : List Frame} {meth : Method} {c : Code} {H : Heap} {locs : List Loc} {cells slots : Nat} {Q : State → Prop}
variable {A : Nat → Nat} {A0 : Nat → Prop} {D : va_G} {cI cQ cL : ClassId} {o : Nat} {σ σ1 : zSt} {f : Nat → Int64} {cc cc' : ByteArray} {nL nl pc idx k ci N : Nat} {y : MethodName} {ls : Array Slot} {own C : String} {T : u_T} {rest : List Value} {Pr : UInt64 → Prop} {d0 : Drawn}
theorem zlc_D (hd0 : s.drawn.sameBut d0 lw_cs) (S : CallFix p mid c cc nL (s.setDrawn d0) args zWL own) (hcon : zDCon l y cc' nl k σ σ1 Pr) (h0 : ci ≠ 0) (hk : zcl k = ci) (hc : zcls[ci - 1]? = some (C, T, N)) (hw : Cond.methodLink own idx y ∈ zWL) (hin : Cond.instanceMethod y ∈ zWL) (hse : Cond.selects C y y ∈ zWL) (hcd : Cond.code y cc' nl (some .double) ∈ zWL) (hini : Cond.initialized y.cls ∈ zWL) (hy : y.cls ≠ "java/lang/invoke/MethodHandle" ∧ y.cls ≠ "java/lang/invoke/VarHandle") (hpn : (parseMethodDescriptor y.desc).map (fun d => d.parameters.length) = some 0) (hnl : nl ≤ 9) (hR : 10 ≤ R.frames ∧ 330 ≤ R.locals) (hcs : cells ≤ R.cells ∧ slots ≤ R.slots) (hsz : ls.size = nL) (hrest : (rest.map fun v => v.category).sum ≤ 8) (hdg : decode cc pc = .ok (.invokevirtual idx, 3))
    (hK : va_K D zcls (zTl cI cQ cL) (s.setDrawn d0)) (hN : zNst (s.setDrawn d0)) (hP : va_P D zcls (zLW A cI cQ cL o σ f) H) (hD : va_D A0 (zLW A cI cQ cL o σ f)) (hS : va_S A0 s.heap H locs) (hA : ∀ q : Nat, s.heap.size ≤ q → A0 q)
    (kk : ∀ (r : UInt64) (d' : Drawn) (H1 : Heap) (locs1 : List Loc), s.drawn.sameBut d' lw_cs → Pr r → va_P D zcls (zLW A cI cQ cL o σ1 f) H1 → va_D A0 (zLW A cI cQ cL o σ1 f) → va_S A0 s.heap H1 locs1 → W p l e R (s.setDrawn d') mid args below meth c H1 locs1 cells slots Q (F0 mid (pc + 3) ls (.double r :: rest))) :
    W p l e R (s.setDrawn d0) mid args below meth c H locs cells slots Q (F0 mid pc ls (.ref (A k) :: rest)) := by
  have hk0 : zcl k ≠ 0 := by rw [hk]; exact h0
  have hk9 := zcl_lt hk0
  have hat : zAt A A0 D cI cQ (s.setDrawn d0).heap H locs σ := ⟨zLW_P hP, zLW_D hD, hS⟩
  have hK2 : va_K D zcls (ztys cI cQ) (s.setDrawn d0) := hK.sub [0, 1] rfl
  have hF := zfree (H0 := s.heap) hat hA
  have hgd : GoodIn zWL (Cond.code y cc' nl (some .double) :: zWL) := fun w hw => by
    rcases List.mem_cons.mp hw with e | hw
    · rw [e]; exact zgood hcd
    · exact zgood hw
  have hr := va_runV_D (below := below) (C := C) (b := A k) (As := []) (rest := rest) (H := H) (locs := locs) (cells := cells) (slots := slots) (meth := meth) (e := e) (R := R) (g := F0 mid pc ls (.ref (A k) :: rest)) S (hcon D A cI cQ H.size) ⟨callB_of (ret := some .double) 0 S.2.2.2.2 hgd rfl rfl rfl (S.2.2.2.2 _ hini) (S.2.2.2.2 _ hw) ⟨hy.1, hy.2, hpn⟩ ⟨by show 9 + 1 ≤ R.frames; omega, by show 8 + (nl + 11) + 300 ≤ R.locals; omega⟩, S.2.2.2.2 _ hin, S.2.2.2.2 _ hse⟩ ⟨zblind, va_recv hK2 hat.1 (ci := ci - 1) (q0 := k) hc (by rw [zW_get (by omega), zent_obj hk0, hk]), zpre hat hK2 hN [.ref (A k)]⟩ rfl rfl hsz rfl (lv_room hrest) hdg ⟨hcs.1, hcs.2⟩
  intro T hT X
  obtain ⟨v', st₀, t, T', L, d', hd', h0', X', hL, e1, e2, ⟨⟨⟨r, hv, hpr⟩, hP1⟩, hz, hk1⟩, st⟩ := hr T hT X
  cases hv
  rw [h0'] at hz hk1
  obtain ⟨t2, a1, b1⟩ := kk r d' T'.heap (locs ++ L) (hd0.trans hd') hpr (by rw [e1]; exact zLW_keep hD hP hP1 hk1) (zLW_D2 hD)
    ⟨Nat.le_trans hS.1 (by rw [e1]; exact hz), fun q h1 h2 => by rw [e1, hk1 q (Nat.lt_of_lt_of_le h1 hS.1) (fun z => h2 (hF q z))]; exact hS.2.1 q h1 h2, fun q hq => by
      rcases List.mem_append.mp hq with h | h
      · exact hS.2.2 q h
      · exact hF _ (hL q h)⟩ T' rfl X'
  exact ⟨t2, st t2 a1, b1⟩
end ZLD
theorem zqw_1 : Cond.methodLink RL 164 yX4_usage ∈ zWL := zwl 382 (by decide +kernel) rfl
theorem zqw_2 : Cond.instanceMethod yX4_usage ∈ zWL := zwl 383 (by decide +kernel) rfl
theorem zqw_3 : Cond.selects RX4 yX4_usage yX4_usage ∈ zWL := zwl 384 (by decide +kernel) rfl
theorem zqw_4 : Cond.code yX4_usage cX4_usage 2 (some .double) ∈ zWL := zwl 385 (by decide +kernel) rfl
theorem zqw_5 : Cond.methodLink RL 168 yX5_usage ∈ zWL := zwl 1194 (by decide +kernel) rfl
theorem zqw_6 : Cond.instanceMethod yX5_usage ∈ zWL := zwl 1195 (by decide +kernel) rfl
theorem zqw_7 : Cond.selects RX5 yX5_usage yX5_usage ∈ zWL := zwl 1196 (by decide +kernel) rfl
theorem zqw_8 : Cond.code yX5_usage cX5_usage 3 (some .double) ∈ zWL := zwl 1197 (by decide +kernel) rfl
theorem zqw_9 : Cond.initialized RX4 ∈ zWL := of_decide_eq_true (by decide +kernel)
theorem zqw_10 : Cond.initialized RX5 ∈ zWL := of_decide_eq_true (by decide +kernel)
theorem lc_22 {p : Program} {l : Launch} {e : Env} {s : State} {m : MethodId} {below : List Frame} {meth : Method} {c : Code} {b L : Nat} {xs : Nat → Int32} {D : va_G} {A : Nat → Nat} {cI cQ cL : ClassId} {o i : Nat} {B : Int} {Q : State → Prop} {d : Drawn} {σ : zSt} {f : Nat → Int64} {H : Heap} {locs : List Loc} {ls : Array Slot} {cells slots : Nat} (hX : zLx p s m meth c b L xs D cI cQ cL) (hfl : l.stackTraces = false) (hL : L ≤ 2048) (hi : i + 3 < L) (hB : 2000 ≤ B ∧ B ≤ 500000) (hs : zLs s D A cI cQ cL o d σ f H locs) (hI : Inv σ B) (hl : lv_has ls 9 (zLv b A o i)) (hc : cells ≤ 100 + i) (hsl : slots ≤ 4000 + 6 * i) (K : zNx p l e s m below meth c b D A cI cQ cL o i B Q) :
    W p l e room_1 (s.setDrawn d) m #[Value.ref b] below meth c H locs cells slots Q (F0 m 1387 ls []) := by
  have S := hX.S d
  have hx := S.1
  have hb := S.2.1
  obtain ⟨hd, hσ, hP, hD, hS⟩ := hs
  obtain ⟨S9, c9, H9, t9, T9, h9, g9, a9⟩ := hI
  have hl : lv_has ls 9 [(0, .ref b), (1, .ref (A 0)), (2, .ref (A 9)), (3, .ref o), (4, .int (nI i))] := hl
  refine lv_aload_n hx hb (by decide +kernel : decode code 1387 = .ok (.aload_n 1, 1)) rfl (lv_at hl 1 rfl) ?_
  refine zlc_D (y := yX4_usage) (k := 0) (ci := 5) (rest := []) (A0 := zAA s) hd S (c_usage l h9.1 a9.1 (by omega) hσ) (by decide) rfl rfl zqw_1 zqw_2 zqw_3 zqw_4 zqw_9 ⟨by decide +kernel, by decide +kernel⟩ (by decide +kernel) (by decide) ⟨by decide, by decide⟩ ⟨by show cells ≤ 601024; omega, by show slots ≤ 7293034; omega⟩ hl.1 (Nat.le_of_ble_eq_true rfl) (by decide +kernel : decode code 1388 = .ok (.invokevirtual 164, 3)) (hX.K d) (hX.N d) hP hD hS (fun q hq => hq) (fun r1 d1 H1 locs1 hd1 hr1 hP hD hS => ?_)
  have S := hX.S d1
  have hx := S.1
  have hb := S.2.1
  refine lv_dstore (lv' := [(5, .double r1), (0, .ref b), (1, .ref (A 0)), (2, .ref (A 9)), (3, .ref o), (4, .int (nI i))]) hx hb (by decide +kernel : decode code 1391 = .ok (.dstore 5, 2)) hl (by decide) rfl (fun ls hl => ?_)
  refine lv_aload_n hx hb (by decide +kernel : decode code 1393 = .ok (.aload_n 2, 1)) rfl (lv_at hl 3 rfl) ?_
  refine zlc_D (y := yX5_usage) (k := 9) (ci := 6) (rest := []) (A0 := zAA s) hd1 S (m_usage l g9.1 a9.1 (by omega) hσ) (by decide) rfl rfl zqw_5 zqw_6 zqw_7 zqw_8 zqw_10 ⟨by decide +kernel, by decide +kernel⟩ (by decide +kernel) (by decide) ⟨by decide, by decide⟩ ⟨by show cells ≤ 601024; omega, by show slots ≤ 7293034; omega⟩ hl.1 (Nat.le_of_ble_eq_true rfl) (by decide +kernel : decode code 1394 = .ok (.invokevirtual 168, 3)) (hX.K d1) (hX.N d1) hP hD hS (fun q hq => hq) (fun r2 d2 H2 locs2 hd2 hr2 hP hD hS => ?_)
  have S := hX.S d2
  have hx := S.1
  have hb := S.2.1
  refine lv_dstore (lv' := [(7, .double r2), (5, .double r1), (0, .ref b), (1, .ref (A 0)), (2, .ref (A 9)), (3, .ref o), (4, .int (nI i))]) hx hb (by decide +kernel : decode code 1397 = .ok (.dstore 7, 2)) hl (by decide) rfl (fun ls hl => ?_)
  have fin : W p l e room_1 (s.setDrawn d2) m #[Value.ref b] below meth c H2 locs2 cells slots Q (F0 m 1425 ls []) := by
    refine lv_goto (tgt := 1568) hx hb (by decide +kernel : decode code 1425 = .ok (.goto 143, 3)) (by decide) ?_
    exact K d2 (zup σ 9 0 0) f H2 locs2 ls cells slots ⟨hd2, zoks_up hσ zr0, hP, hD, hS⟩ ⟨S9, c9, H9, t9, T9, h9.fm a9 FM.nine, g9.nine (by decide), a9.up (by omega)⟩ (lv_sub hl [2, 3, 4, 5, 6] rfl) (by omega) (by omega)
  refine lv_dload hx hb (by decide +kernel : decode code 1399 = .ok (.dload 5, 2)) (lv_at hl 1 rfl) ?_
  refine lv_dload hx hb (by decide +kernel : decode code 1401 = .ok (.dload 7, 2)) (lv_at hl 0 rfl) ?_
  refine lv_dcmp hx hb (by decide +kernel : decode code 1403 = .ok (.dcmp .l, 1)) ?_
  refine lv_if_eq (tgt := 1425) hx hb (by decide +kernel : decode code 1404 = .ok (.ifCond .eq 21, 3)) (by decide) (fun _ => fin) (fun n1 => ?_)
  have hh : Op.cmpValue (FP.dcmp r1 r1) CmpOp.l ≠ 0 ∧ Op.cmpValue (FP.dcmp r2 r2) CmpOp.l ≠ 0 := by
    rcases usP_eq hr1 hr2 with q | ⟨q1, q2⟩
    · subst q
      exact ⟨n1, n1⟩
    · rw [znan_cmp q1, znan_cmp q2]
      exact ⟨by decide, by decide⟩
  refine lv_dload hx hb (by decide +kernel : decode code 1407 = .ok (.dload 5, 2)) (lv_at hl 1 rfl) ?_
  refine lv_dload hx hb (by decide +kernel : decode code 1409 = .ok (.dload 5, 2)) (lv_at hl 1 rfl) ?_
  refine lv_dcmp hx hb (by decide +kernel : decode code 1411 = .ok (.dcmp .l, 1)) ?_
  refine lv_if_eq (tgt := 1423) hx hb (by decide +kernel : decode code 1412 = .ok (.ifCond .eq 11, 3)) (by decide) (fun n2 => absurd n2 hh.1) (fun _ => ?_)
  refine lv_dload hx hb (by decide +kernel : decode code 1415 = .ok (.dload 7, 2)) (lv_at hl 0 rfl) ?_
  refine lv_dload hx hb (by decide +kernel : decode code 1417 = .ok (.dload 7, 2)) (lv_at hl 0 rfl) ?_
  refine lv_dcmp hx hb (by decide +kernel : decode code 1419 = .ok (.dcmp .l, 1)) ?_
  exact lv_if_ne (tgt := 1425) hx hb (by decide +kernel : decode code 1420 = .ok (.ifCond .ne 5, 3)) (by decide) (fun _ => fin) (fun n3 => absurd n3 hh.2)
