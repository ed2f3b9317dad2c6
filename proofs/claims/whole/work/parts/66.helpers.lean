/-! ===== 66: the law's helpers (written by a program) ===== -/
theorem zcl_3 : Cond.classLink RL 25 (zexn 3) ∈ zWL := zwl 708 (by decide +kernel) rfl
theorem zcl_1 : Cond.classLink RL 13 (zexn 1) ∈ zWL := zwl 670 (by decide +kernel) rfl
theorem zcl_2 : Cond.classLink RL 19 (zexn 2) ∈ zWL := zwl 683 (by decide +kernel) rfl
theorem zlk_0 : Cond.methodLink RL 7 yX4_begin ∈ zWL := zwl 671 (by decide +kernel) rfl
theorem zli_0 : Cond.instanceMethod yX4_begin ∈ zWL := zwl 672 (by decide +kernel) rfl
theorem zls_0 : Cond.selects RX4 yX4_begin yX4_begin ∈ zWL := zwl 673 (by decide +kernel) rfl
theorem hr_0 (l : Launch) {σ σ1 : zSt} {f : Nat → Int64} {x0 : Int} (q0 : zr x0) {v : Int} (hσ : zoks σ) (h : zE 0 0 [some (zR 0), some (zI x0), none] [] σ = zRI v σ1) : zHCon l yL_begin cL_begin 4 [(0, 9, 12, 13)] [zI x0] σ f 0 σ1 (vp_updL f 0 (zl v)) := by
  have hcon : zCon l 0 (zR 0 :: [zI x0]) σ (some (zI v)) σ1 := zE_con l h zMk_0 (Nat.le_of_ble_eq_true rfl) (by
    intro a ha
    simp only [List.mem_cons, List.not_mem_nil, or_false] at ha
    rcases ha with rfl | rfl <;> first | trivial | assumption) hσ
  refine zHel_of (by decide +kernel) rfl (fun p e s mid args below meth c A D cI cQ cL o hX => ⟨Nat.le_of_ble_eq_true rfl, fun ls hl => ?_⟩)
  obtain ⟨S, hr, hlk, hN, hK, hTv, hNc, hTs, hP, hD, htab⟩ := id hX
  have hx := S.1
  have hb := S.2.1
  have hS : va_S (va_A (zLW A cI cQ cL o σ f) s.heap.size) s.heap s.heap [] := va_S.rf
  have hA : ∀ q : Nat, s.heap.size ≤ q → va_A (zLW A cI cQ cL o σ f) s.heap.size q := fun q h => Or.inr h
  have hl : lv_has ls 4 [(0, .ref (A 0)), (1, .int (Int32.ofInt x0)), (2, .ref o)] := hl
  refine lv_aload_n hx hb (by decide +kernel : decode cL_begin 0 = .ok (.aload_n 2, 1)) rfl (lv_at hl 2 rfl) ?_
  refine lv_iconst (v := 0) hx hb (by decide +kernel : decode cL_begin 1 = .ok (.iconst 0, 1)) (by decide) ?_
  refine lv_aload_n hx hb (by decide +kernel : decode cL_begin 2 = .ok (.aload_n 0, 1)) rfl (lv_at hl 0 rfl) ?_
  refine lv_iload_n hx hb (by decide +kernel : decode cL_begin 3 = .ok (.iload_n 1, 1)) rfl (lv_at hl 1 rfl) ?_
  refine zlc_V (k := 0) (ci := 5) (n := 1) (as := [zI x0]) (rest := [.int 0, .ref o]) S hcon (by decide) rfl rfl zlk_0 zli_0 zls_0 zMk_0 (by decide +kernel) rfl (by decide +kernel) (by decide +kernel) ⟨by decide, by decide⟩ hl.1 (Nat.le_of_ble_eq_true rfl) (by decide +kernel : decode cL_begin 4 = .ok (.invokevirtual 7, 3)) hK hN hP hD hS hA (fun H1 locs1 hP hD hS hok hvs _ => ?_)
  refine lv_i2l (v := zl v) hx hb (by decide +kernel : decode cL_begin 7 = .ok (.i2l, 1)) rfl ?_
  refine zlc_last hx hb hK hP hD hS (by decide +kernel : decode cL_begin 8 = .ok (.lastore, 1)) (fun H2 locs2 hP hD hS => ?_)
  refine lv_goto (tgt := 15) hx hb (by decide +kernel : decode cL_begin 9 = .ok (.goto 6, 3)) (by decide) ?_
  refine lv_iconst (v := Int32.ofInt 0) hx hb (by decide +kernel : decode cL_begin 15 = .ok (.iconst 0, 1)) (by decide) ?_
  exact zHend hX hP hS hok ⟨by decide, by decide⟩ (by decide +kernel : decode cL_begin 16 = .ok (.ireturn, 1))
theorem hx_0_0 (l : Launch) (hfl : l.stackTraces = false) {σ σ1 : zSt} {f : Nat → Int64} {x0 : Int} (q0 : zr x0) (hσ : zoks σ) (h : zE 0 0 [some (zR 0), some (zI x0), none] [] σ = some (.inr (1, σ1))) : zHCon l yL_begin cL_begin 4 [(0, 9, 12, 13)] [zI x0] σ f 1 σ1 f := by
  have hcon : zConX l 0 (zR 0 :: [zI x0]) σ 1 σ1 := zconX l hfl h zTh_0 zMk_0 (by decide +kernel) (Nat.le_of_ble_eq_true rfl) (by
    intro a ha
    simp only [List.mem_cons, List.not_mem_nil, or_false] at ha
    rcases ha with rfl | rfl <;> first | trivial | assumption) hσ
  refine zHel_of (by decide +kernel) rfl (fun p e s mid args below meth c A D cI cQ cL o hX => ⟨Nat.le_of_ble_eq_true rfl, fun ls hl => ?_⟩)
  obtain ⟨S, hr, hlk, hN, hK, hTv, hNc, hTs, hP, hD, htab⟩ := id hX
  have hx := S.1
  have hb := S.2.1
  have hS : va_S (va_A (zLW A cI cQ cL o σ f) s.heap.size) s.heap s.heap [] := va_S.rf
  have hA : ∀ q : Nat, s.heap.size ≤ q → va_A (zLW A cI cQ cL o σ f) s.heap.size q := fun q h => Or.inr h
  have hl : lv_has ls 4 [(0, .ref (A 0)), (1, .int (Int32.ofInt x0)), (2, .ref o)] := hl
  refine lv_aload_n hx hb (by decide +kernel : decode cL_begin 0 = .ok (.aload_n 2, 1)) rfl (lv_at hl 2 rfl) ?_
  refine lv_iconst (v := 0) hx hb (by decide +kernel : decode cL_begin 1 = .ok (.iconst 0, 1)) (by decide) ?_
  refine lv_aload_n hx hb (by decide +kernel : decode cL_begin 2 = .ok (.aload_n 0, 1)) rfl (lv_at hl 0 rfl) ?_
  refine lv_iload_n hx hb (by decide +kernel : decode cL_begin 3 = .ok (.iload_n 1, 1)) rfl (lv_at hl 1 rfl) ?_
  refine zlc_X (k := 0) (ci := 5) (n := 1) (as := [zI x0]) (rest := [.int 0, .ref o]) S hcon (by decide) rfl rfl zlk_0 zli_0 zls_0 zMk_0 (by decide +kernel) rfl (by decide +kernel) (by decide +kernel) ⟨by decide, by decide⟩ hl.1 (Nat.le_of_ble_eq_true rfl) (by decide +kernel : decode cL_begin 4 = .ok (.invokevirtual 7, 3)) hK hN hTv hTs hP hD hS hA (fun H1 locs1 q ce hP hD hS hok hce hcv hcl _ => ?_)
  refine vx_catch (own := RL) (name := zexn 1) (E := zexn 1) S.2.2.2.1 [] ⟨0, 9, 12, 13⟩ [] htab (fun z hz => by cases hz) rfl (by decide) (S.2.2.2.2 _ zcl_1) (va_Nw.use rfl (hTv.1 _ (List.mem_of_getElem? (i := 3) rfl))) hce hcv hcl ?_
  refine lv_astore_n (lv' := [(3, .ref q), (0, .ref (A 0)), (1, .int (Int32.ofInt x0)), (2, .ref o)]) hx hb (by decide +kernel : decode cL_begin 12 = .ok (.astore_n 3, 1)) rfl hl (by decide) rfl (fun ls hl => ?_)
  refine lv_iconst (v := Int32.ofInt 1) hx hb (by decide +kernel : decode cL_begin 13 = .ok (.iconst 1, 1)) (by decide) ?_
  exact zHend hX hP hS hok ⟨by decide, by decide⟩ (by decide +kernel : decode cL_begin 14 = .ok (.ireturn, 1))
theorem zlk_1 : Cond.methodLink RL 15 yX4_addJob ∈ zWL := zwl 684 (by decide +kernel) rfl
theorem zli_1 : Cond.instanceMethod yX4_addJob ∈ zWL := zwl 685 (by decide +kernel) rfl
theorem zls_1 : Cond.selects RX4 yX4_addJob yX4_addJob ∈ zWL := zwl 686 (by decide +kernel) rfl
theorem hr_1 (l : Launch) {σ σ1 : zSt} {f : Nat → Int64} {x0 x1 : Int} (q0 : zr x0) (q1 : zr x1) {v : Int} (hσ : zoks σ) (h : zE 1 0 [some (zR 0), some (zI x0), some (zI x1)] [] σ = zRI v σ1) : zHCon l yL_addJob cL_addJob 5 [(0, 10, 13, 13), (0, 10, 17, 19)] [zI x0, zI x1] σ f 0 σ1 (vp_updL f 0 (zl v)) := by
  have hcon : zCon l 1 (zR 0 :: [zI x0, zI x1]) σ (some (zI v)) σ1 := zE_con l h zMk_1 (Nat.le_of_ble_eq_true rfl) (by
    intro a ha
    simp only [List.mem_cons, List.not_mem_nil, or_false] at ha
    rcases ha with rfl | rfl | rfl <;> first | trivial | assumption) hσ
  refine zHel_of (by decide +kernel) rfl (fun p e s mid args below meth c A D cI cQ cL o hX => ⟨Nat.le_of_ble_eq_true rfl, fun ls hl => ?_⟩)
  obtain ⟨S, hr, hlk, hN, hK, hTv, hNc, hTs, hP, hD, htab⟩ := id hX
  have hx := S.1
  have hb := S.2.1
  have hS : va_S (va_A (zLW A cI cQ cL o σ f) s.heap.size) s.heap s.heap [] := va_S.rf
  have hA : ∀ q : Nat, s.heap.size ≤ q → va_A (zLW A cI cQ cL o σ f) s.heap.size q := fun q h => Or.inr h
  have hl : lv_has ls 5 [(0, .ref (A 0)), (1, .int (Int32.ofInt x0)), (2, .int (Int32.ofInt x1)), (3, .ref o)] := hl
  refine lv_aload_n hx hb (by decide +kernel : decode cL_addJob 0 = .ok (.aload_n 3, 1)) rfl (lv_at hl 3 rfl) ?_
  refine lv_iconst (v := 0) hx hb (by decide +kernel : decode cL_addJob 1 = .ok (.iconst 0, 1)) (by decide) ?_
  refine lv_aload_n hx hb (by decide +kernel : decode cL_addJob 2 = .ok (.aload_n 0, 1)) rfl (lv_at hl 0 rfl) ?_
  refine lv_iload_n hx hb (by decide +kernel : decode cL_addJob 3 = .ok (.iload_n 1, 1)) rfl (lv_at hl 1 rfl) ?_
  refine lv_iload_n hx hb (by decide +kernel : decode cL_addJob 4 = .ok (.iload_n 2, 1)) rfl (lv_at hl 2 rfl) ?_
  refine zlc_V (k := 0) (ci := 5) (n := 2) (as := [zI x0, zI x1]) (rest := [.int 0, .ref o]) S hcon (by decide) rfl rfl zlk_1 zli_1 zls_1 zMk_1 (by decide +kernel) rfl (by decide +kernel) (by decide +kernel) ⟨by decide, by decide⟩ hl.1 (Nat.le_of_ble_eq_true rfl) (by decide +kernel : decode cL_addJob 5 = .ok (.invokevirtual 15, 3)) hK hN hP hD hS hA (fun H1 locs1 hP hD hS hok hvs _ => ?_)
  refine lv_i2l (v := zl v) hx hb (by decide +kernel : decode cL_addJob 8 = .ok (.i2l, 1)) rfl ?_
  refine zlc_last hx hb hK hP hD hS (by decide +kernel : decode cL_addJob 9 = .ok (.lastore, 1)) (fun H2 locs2 hP hD hS => ?_)
  refine lv_goto (tgt := 21) hx hb (by decide +kernel : decode cL_addJob 10 = .ok (.goto 11, 3)) (by decide) ?_
  refine lv_iconst (v := Int32.ofInt 0) hx hb (by decide +kernel : decode cL_addJob 21 = .ok (.iconst 0, 1)) (by decide) ?_
  exact zHend hX hP hS hok ⟨by decide, by decide⟩ (by decide +kernel : decode cL_addJob 22 = .ok (.ireturn, 1))
theorem hx_1_0 (l : Launch) (hfl : l.stackTraces = false) {σ σ1 : zSt} {f : Nat → Int64} {x0 x1 : Int} (q0 : zr x0) (q1 : zr x1) (hσ : zoks σ) (h : zE 1 0 [some (zR 0), some (zI x0), some (zI x1)] [] σ = some (.inr (1, σ1))) : zHCon l yL_addJob cL_addJob 5 [(0, 10, 13, 13), (0, 10, 17, 19)] [zI x0, zI x1] σ f 1 σ1 f := by
  have hcon : zConX l 1 (zR 0 :: [zI x0, zI x1]) σ 1 σ1 := zconX l hfl h zTh_1 zMk_1 (by decide +kernel) (Nat.le_of_ble_eq_true rfl) (by
    intro a ha
    simp only [List.mem_cons, List.not_mem_nil, or_false] at ha
    rcases ha with rfl | rfl | rfl <;> first | trivial | assumption) hσ
  refine zHel_of (by decide +kernel) rfl (fun p e s mid args below meth c A D cI cQ cL o hX => ⟨Nat.le_of_ble_eq_true rfl, fun ls hl => ?_⟩)
  obtain ⟨S, hr, hlk, hN, hK, hTv, hNc, hTs, hP, hD, htab⟩ := id hX
  have hx := S.1
  have hb := S.2.1
  have hS : va_S (va_A (zLW A cI cQ cL o σ f) s.heap.size) s.heap s.heap [] := va_S.rf
  have hA : ∀ q : Nat, s.heap.size ≤ q → va_A (zLW A cI cQ cL o σ f) s.heap.size q := fun q h => Or.inr h
  have hl : lv_has ls 5 [(0, .ref (A 0)), (1, .int (Int32.ofInt x0)), (2, .int (Int32.ofInt x1)), (3, .ref o)] := hl
  refine lv_aload_n hx hb (by decide +kernel : decode cL_addJob 0 = .ok (.aload_n 3, 1)) rfl (lv_at hl 3 rfl) ?_
  refine lv_iconst (v := 0) hx hb (by decide +kernel : decode cL_addJob 1 = .ok (.iconst 0, 1)) (by decide) ?_
  refine lv_aload_n hx hb (by decide +kernel : decode cL_addJob 2 = .ok (.aload_n 0, 1)) rfl (lv_at hl 0 rfl) ?_
  refine lv_iload_n hx hb (by decide +kernel : decode cL_addJob 3 = .ok (.iload_n 1, 1)) rfl (lv_at hl 1 rfl) ?_
  refine lv_iload_n hx hb (by decide +kernel : decode cL_addJob 4 = .ok (.iload_n 2, 1)) rfl (lv_at hl 2 rfl) ?_
  refine zlc_X (k := 0) (ci := 5) (n := 2) (as := [zI x0, zI x1]) (rest := [.int 0, .ref o]) S hcon (by decide) rfl rfl zlk_1 zli_1 zls_1 zMk_1 (by decide +kernel) rfl (by decide +kernel) (by decide +kernel) ⟨by decide, by decide⟩ hl.1 (Nat.le_of_ble_eq_true rfl) (by decide +kernel : decode cL_addJob 5 = .ok (.invokevirtual 15, 3)) hK hN hTv hTs hP hD hS hA (fun H1 locs1 q ce hP hD hS hok hce hcv hcl _ => ?_)
  refine vx_catch (own := RL) (name := zexn 1) (E := zexn 1) S.2.2.2.1 [] ⟨0, 10, 13, 13⟩ [⟨0, 10, 17, 19⟩] htab (fun z hz => by cases hz) rfl (by decide) (S.2.2.2.2 _ zcl_1) (va_Nw.use rfl (hTv.1 _ (List.mem_of_getElem? (i := 3) rfl))) hce hcv hcl ?_
  refine lv_astore (lv' := [(4, .ref q), (0, .ref (A 0)), (1, .int (Int32.ofInt x0)), (2, .int (Int32.ofInt x1)), (3, .ref o)]) hx hb (by decide +kernel : decode cL_addJob 13 = .ok (.astore 4, 2)) hl (by decide) rfl (fun ls hl => ?_)
  refine lv_iconst (v := Int32.ofInt 1) hx hb (by decide +kernel : decode cL_addJob 15 = .ok (.iconst 1, 1)) (by decide) ?_
  exact zHend hX hP hS hok ⟨by decide, by decide⟩ (by decide +kernel : decode cL_addJob 16 = .ok (.ireturn, 1))
theorem hx_1_1 (l : Launch) (hfl : l.stackTraces = false) {σ σ1 : zSt} {f : Nat → Int64} {x0 x1 : Int} (q0 : zr x0) (q1 : zr x1) (hσ : zoks σ) (h : zE 1 0 [some (zR 0), some (zI x0), some (zI x1)] [] σ = some (.inr (2, σ1))) : zHCon l yL_addJob cL_addJob 5 [(0, 10, 13, 13), (0, 10, 17, 19)] [zI x0, zI x1] σ f 2 σ1 f := by
  have hcon : zConX l 1 (zR 0 :: [zI x0, zI x1]) σ 2 σ1 := zconX l hfl h zTh_1 zMk_1 (by decide +kernel) (Nat.le_of_ble_eq_true rfl) (by
    intro a ha
    simp only [List.mem_cons, List.not_mem_nil, or_false] at ha
    rcases ha with rfl | rfl | rfl <;> first | trivial | assumption) hσ
  refine zHel_of (by decide +kernel) rfl (fun p e s mid args below meth c A D cI cQ cL o hX => ⟨Nat.le_of_ble_eq_true rfl, fun ls hl => ?_⟩)
  obtain ⟨S, hr, hlk, hN, hK, hTv, hNc, hTs, hP, hD, htab⟩ := id hX
  have hx := S.1
  have hb := S.2.1
  have hS : va_S (va_A (zLW A cI cQ cL o σ f) s.heap.size) s.heap s.heap [] := va_S.rf
  have hA : ∀ q : Nat, s.heap.size ≤ q → va_A (zLW A cI cQ cL o σ f) s.heap.size q := fun q h => Or.inr h
  have hl : lv_has ls 5 [(0, .ref (A 0)), (1, .int (Int32.ofInt x0)), (2, .int (Int32.ofInt x1)), (3, .ref o)] := hl
  refine lv_aload_n hx hb (by decide +kernel : decode cL_addJob 0 = .ok (.aload_n 3, 1)) rfl (lv_at hl 3 rfl) ?_
  refine lv_iconst (v := 0) hx hb (by decide +kernel : decode cL_addJob 1 = .ok (.iconst 0, 1)) (by decide) ?_
  refine lv_aload_n hx hb (by decide +kernel : decode cL_addJob 2 = .ok (.aload_n 0, 1)) rfl (lv_at hl 0 rfl) ?_
  refine lv_iload_n hx hb (by decide +kernel : decode cL_addJob 3 = .ok (.iload_n 1, 1)) rfl (lv_at hl 1 rfl) ?_
  refine lv_iload_n hx hb (by decide +kernel : decode cL_addJob 4 = .ok (.iload_n 2, 1)) rfl (lv_at hl 2 rfl) ?_
  refine zlc_X (k := 0) (ci := 5) (n := 2) (as := [zI x0, zI x1]) (rest := [.int 0, .ref o]) S hcon (by decide) rfl rfl zlk_1 zli_1 zls_1 zMk_1 (by decide +kernel) rfl (by decide +kernel) (by decide +kernel) ⟨by decide, by decide⟩ hl.1 (Nat.le_of_ble_eq_true rfl) (by decide +kernel : decode cL_addJob 5 = .ok (.invokevirtual 15, 3)) hK hN hTv hTs hP hD hS hA (fun H1 locs1 q ce hP hD hS hok hce hcv hcl _ => ?_)
  refine vx_catch (own := RL) (name := zexn 2) (E := zexn 2) S.2.2.2.1 [⟨0, 10, 13, 13⟩] ⟨0, 10, 17, 19⟩ [] htab (fun z hz => by
    rw [List.mem_singleton.mp hz]
    exact Or.inr ⟨by decide, zexn 1, S.2.2.2.2 _ zcl_1, hNc.1⟩) rfl (by decide) (S.2.2.2.2 _ zcl_2) (va_Nw.use rfl (hTv.1 _ (List.mem_of_getElem? (i := 4) rfl))) hce hcv hcl ?_
  refine lv_astore (lv' := [(4, .ref q), (0, .ref (A 0)), (1, .int (Int32.ofInt x0)), (2, .int (Int32.ofInt x1)), (3, .ref o)]) hx hb (by decide +kernel : decode cL_addJob 17 = .ok (.astore 4, 2)) hl (by decide) rfl (fun ls hl => ?_)
  refine lv_iconst (v := Int32.ofInt 2) hx hb (by decide +kernel : decode cL_addJob 19 = .ok (.iconst 2, 1)) (by decide) ?_
  exact zHend hX hP hS hok ⟨by decide, by decide⟩ (by decide +kernel : decode cL_addJob 20 = .ok (.ireturn, 1))
theorem zlk_2 : Cond.methodLink RL 21 yX4_addOperation ∈ zWL := zwl 709 (by decide +kernel) rfl
theorem zli_2 : Cond.instanceMethod yX4_addOperation ∈ zWL := zwl 710 (by decide +kernel) rfl
theorem zls_2 : Cond.selects RX4 yX4_addOperation yX4_addOperation ∈ zWL := zwl 711 (by decide +kernel) rfl
theorem hr_2 (l : Launch) {σ σ1 : zSt} {f : Nat → Int64} {x0 x1 x2 : Int} (q0 : zr x0) (q1 : zr x1) (q2 : zr x2) {v : Int} (hσ : zoks σ) (h : zE 2 0 [some (zR 0), some (zI x0), some (zI x1), some (zI x2)] [] σ = zRI v σ1) : zHCon l yL_addOperation cL_addOperation 6 [(0, 12, 15, 25), (0, 12, 19, 13), (0, 12, 23, 19)] [zI x0, zI x1, zI x2] σ f 0 σ1 (vp_updL f 0 (zl v)) := by
  have hcon : zCon l 2 (zR 0 :: [zI x0, zI x1, zI x2]) σ (some (zI v)) σ1 := zE_con l h zMk_2 (Nat.le_of_ble_eq_true rfl) (by
    intro a ha
    simp only [List.mem_cons, List.not_mem_nil, or_false] at ha
    rcases ha with rfl | rfl | rfl | rfl <;> first | trivial | assumption) hσ
  refine zHel_of (by decide +kernel) rfl (fun p e s mid args below meth c A D cI cQ cL o hX => ⟨Nat.le_of_ble_eq_true rfl, fun ls hl => ?_⟩)
  obtain ⟨S, hr, hlk, hN, hK, hTv, hNc, hTs, hP, hD, htab⟩ := id hX
  have hx := S.1
  have hb := S.2.1
  have hS : va_S (va_A (zLW A cI cQ cL o σ f) s.heap.size) s.heap s.heap [] := va_S.rf
  have hA : ∀ q : Nat, s.heap.size ≤ q → va_A (zLW A cI cQ cL o σ f) s.heap.size q := fun q h => Or.inr h
  have hl : lv_has ls 6 [(0, .ref (A 0)), (1, .int (Int32.ofInt x0)), (2, .int (Int32.ofInt x1)), (3, .int (Int32.ofInt x2)), (4, .ref o)] := hl
  refine lv_aload hx hb (by decide +kernel : decode cL_addOperation 0 = .ok (.aload 4, 2)) (lv_at hl 4 rfl) ?_
  refine lv_iconst (v := 0) hx hb (by decide +kernel : decode cL_addOperation 2 = .ok (.iconst 0, 1)) (by decide) ?_
  refine lv_aload_n hx hb (by decide +kernel : decode cL_addOperation 3 = .ok (.aload_n 0, 1)) rfl (lv_at hl 0 rfl) ?_
  refine lv_iload_n hx hb (by decide +kernel : decode cL_addOperation 4 = .ok (.iload_n 1, 1)) rfl (lv_at hl 1 rfl) ?_
  refine lv_iload_n hx hb (by decide +kernel : decode cL_addOperation 5 = .ok (.iload_n 2, 1)) rfl (lv_at hl 2 rfl) ?_
  refine lv_iload_n hx hb (by decide +kernel : decode cL_addOperation 6 = .ok (.iload_n 3, 1)) rfl (lv_at hl 3 rfl) ?_
  refine zlc_V (k := 0) (ci := 5) (n := 3) (as := [zI x0, zI x1, zI x2]) (rest := [.int 0, .ref o]) S hcon (by decide) rfl rfl zlk_2 zli_2 zls_2 zMk_2 (by decide +kernel) rfl (by decide +kernel) (by decide +kernel) ⟨by decide, by decide⟩ hl.1 (Nat.le_of_ble_eq_true rfl) (by decide +kernel : decode cL_addOperation 7 = .ok (.invokevirtual 21, 3)) hK hN hP hD hS hA (fun H1 locs1 hP hD hS hok hvs _ => ?_)
  refine lv_i2l (v := zl v) hx hb (by decide +kernel : decode cL_addOperation 10 = .ok (.i2l, 1)) rfl ?_
  refine zlc_last hx hb hK hP hD hS (by decide +kernel : decode cL_addOperation 11 = .ok (.lastore, 1)) (fun H2 locs2 hP hD hS => ?_)
  refine lv_goto (tgt := 27) hx hb (by decide +kernel : decode cL_addOperation 12 = .ok (.goto 15, 3)) (by decide) ?_
  refine lv_iconst (v := Int32.ofInt 0) hx hb (by decide +kernel : decode cL_addOperation 27 = .ok (.iconst 0, 1)) (by decide) ?_
  exact zHend hX hP hS hok ⟨by decide, by decide⟩ (by decide +kernel : decode cL_addOperation 28 = .ok (.ireturn, 1))
theorem hx_2_0 (l : Launch) (hfl : l.stackTraces = false) {σ σ1 : zSt} {f : Nat → Int64} {x0 x1 x2 : Int} (q0 : zr x0) (q1 : zr x1) (q2 : zr x2) (hσ : zoks σ) (h : zE 2 0 [some (zR 0), some (zI x0), some (zI x1), some (zI x2)] [] σ = some (.inr (3, σ1))) : zHCon l yL_addOperation cL_addOperation 6 [(0, 12, 15, 25), (0, 12, 19, 13), (0, 12, 23, 19)] [zI x0, zI x1, zI x2] σ f 1 σ1 f := by
  have hcon : zConX l 2 (zR 0 :: [zI x0, zI x1, zI x2]) σ 3 σ1 := zconX l hfl h zTh_2 zMk_2 (by decide +kernel) (Nat.le_of_ble_eq_true rfl) (by
    intro a ha
    simp only [List.mem_cons, List.not_mem_nil, or_false] at ha
    rcases ha with rfl | rfl | rfl | rfl <;> first | trivial | assumption) hσ
  refine zHel_of (by decide +kernel) rfl (fun p e s mid args below meth c A D cI cQ cL o hX => ⟨Nat.le_of_ble_eq_true rfl, fun ls hl => ?_⟩)
  obtain ⟨S, hr, hlk, hN, hK, hTv, hNc, hTs, hP, hD, htab⟩ := id hX
  have hx := S.1
  have hb := S.2.1
  have hS : va_S (va_A (zLW A cI cQ cL o σ f) s.heap.size) s.heap s.heap [] := va_S.rf
  have hA : ∀ q : Nat, s.heap.size ≤ q → va_A (zLW A cI cQ cL o σ f) s.heap.size q := fun q h => Or.inr h
  have hl : lv_has ls 6 [(0, .ref (A 0)), (1, .int (Int32.ofInt x0)), (2, .int (Int32.ofInt x1)), (3, .int (Int32.ofInt x2)), (4, .ref o)] := hl
  refine lv_aload hx hb (by decide +kernel : decode cL_addOperation 0 = .ok (.aload 4, 2)) (lv_at hl 4 rfl) ?_
  refine lv_iconst (v := 0) hx hb (by decide +kernel : decode cL_addOperation 2 = .ok (.iconst 0, 1)) (by decide) ?_
  refine lv_aload_n hx hb (by decide +kernel : decode cL_addOperation 3 = .ok (.aload_n 0, 1)) rfl (lv_at hl 0 rfl) ?_
  refine lv_iload_n hx hb (by decide +kernel : decode cL_addOperation 4 = .ok (.iload_n 1, 1)) rfl (lv_at hl 1 rfl) ?_
  refine lv_iload_n hx hb (by decide +kernel : decode cL_addOperation 5 = .ok (.iload_n 2, 1)) rfl (lv_at hl 2 rfl) ?_
  refine lv_iload_n hx hb (by decide +kernel : decode cL_addOperation 6 = .ok (.iload_n 3, 1)) rfl (lv_at hl 3 rfl) ?_
  refine zlc_X (k := 0) (ci := 5) (n := 3) (as := [zI x0, zI x1, zI x2]) (rest := [.int 0, .ref o]) S hcon (by decide) rfl rfl zlk_2 zli_2 zls_2 zMk_2 (by decide +kernel) rfl (by decide +kernel) (by decide +kernel) ⟨by decide, by decide⟩ hl.1 (Nat.le_of_ble_eq_true rfl) (by decide +kernel : decode cL_addOperation 7 = .ok (.invokevirtual 21, 3)) hK hN hTv hTs hP hD hS hA (fun H1 locs1 q ce hP hD hS hok hce hcv hcl _ => ?_)
  refine vx_catch (own := RL) (name := zexn 3) (E := zexn 3) S.2.2.2.1 [] ⟨0, 12, 15, 25⟩ [⟨0, 12, 19, 13⟩, ⟨0, 12, 23, 19⟩] htab (fun z hz => by cases hz) rfl (by decide) (S.2.2.2.2 _ zcl_3) (va_Nw.use rfl (hTv.1 _ (List.mem_of_getElem? (i := 5) rfl))) hce hcv hcl ?_
  refine lv_astore (lv' := [(5, .ref q), (0, .ref (A 0)), (1, .int (Int32.ofInt x0)), (2, .int (Int32.ofInt x1)), (3, .int (Int32.ofInt x2)), (4, .ref o)]) hx hb (by decide +kernel : decode cL_addOperation 15 = .ok (.astore 5, 2)) hl (by decide) rfl (fun ls hl => ?_)
  refine lv_iconst (v := Int32.ofInt 1) hx hb (by decide +kernel : decode cL_addOperation 17 = .ok (.iconst 1, 1)) (by decide) ?_
  exact zHend hX hP hS hok ⟨by decide, by decide⟩ (by decide +kernel : decode cL_addOperation 18 = .ok (.ireturn, 1))
theorem hx_2_1 (l : Launch) (hfl : l.stackTraces = false) {σ σ1 : zSt} {f : Nat → Int64} {x0 x1 x2 : Int} (q0 : zr x0) (q1 : zr x1) (q2 : zr x2) (hσ : zoks σ) (h : zE 2 0 [some (zR 0), some (zI x0), some (zI x1), some (zI x2)] [] σ = some (.inr (1, σ1))) : zHCon l yL_addOperation cL_addOperation 6 [(0, 12, 15, 25), (0, 12, 19, 13), (0, 12, 23, 19)] [zI x0, zI x1, zI x2] σ f 2 σ1 f := by
  have hcon : zConX l 2 (zR 0 :: [zI x0, zI x1, zI x2]) σ 1 σ1 := zconX l hfl h zTh_2 zMk_2 (by decide +kernel) (Nat.le_of_ble_eq_true rfl) (by
    intro a ha
    simp only [List.mem_cons, List.not_mem_nil, or_false] at ha
    rcases ha with rfl | rfl | rfl | rfl <;> first | trivial | assumption) hσ
  refine zHel_of (by decide +kernel) rfl (fun p e s mid args below meth c A D cI cQ cL o hX => ⟨Nat.le_of_ble_eq_true rfl, fun ls hl => ?_⟩)
  obtain ⟨S, hr, hlk, hN, hK, hTv, hNc, hTs, hP, hD, htab⟩ := id hX
  have hx := S.1
  have hb := S.2.1
  have hS : va_S (va_A (zLW A cI cQ cL o σ f) s.heap.size) s.heap s.heap [] := va_S.rf
  have hA : ∀ q : Nat, s.heap.size ≤ q → va_A (zLW A cI cQ cL o σ f) s.heap.size q := fun q h => Or.inr h
  have hl : lv_has ls 6 [(0, .ref (A 0)), (1, .int (Int32.ofInt x0)), (2, .int (Int32.ofInt x1)), (3, .int (Int32.ofInt x2)), (4, .ref o)] := hl
  refine lv_aload hx hb (by decide +kernel : decode cL_addOperation 0 = .ok (.aload 4, 2)) (lv_at hl 4 rfl) ?_
  refine lv_iconst (v := 0) hx hb (by decide +kernel : decode cL_addOperation 2 = .ok (.iconst 0, 1)) (by decide) ?_
  refine lv_aload_n hx hb (by decide +kernel : decode cL_addOperation 3 = .ok (.aload_n 0, 1)) rfl (lv_at hl 0 rfl) ?_
  refine lv_iload_n hx hb (by decide +kernel : decode cL_addOperation 4 = .ok (.iload_n 1, 1)) rfl (lv_at hl 1 rfl) ?_
  refine lv_iload_n hx hb (by decide +kernel : decode cL_addOperation 5 = .ok (.iload_n 2, 1)) rfl (lv_at hl 2 rfl) ?_
  refine lv_iload_n hx hb (by decide +kernel : decode cL_addOperation 6 = .ok (.iload_n 3, 1)) rfl (lv_at hl 3 rfl) ?_
  refine zlc_X (k := 0) (ci := 5) (n := 3) (as := [zI x0, zI x1, zI x2]) (rest := [.int 0, .ref o]) S hcon (by decide) rfl rfl zlk_2 zli_2 zls_2 zMk_2 (by decide +kernel) rfl (by decide +kernel) (by decide +kernel) ⟨by decide, by decide⟩ hl.1 (Nat.le_of_ble_eq_true rfl) (by decide +kernel : decode cL_addOperation 7 = .ok (.invokevirtual 21, 3)) hK hN hTv hTs hP hD hS hA (fun H1 locs1 q ce hP hD hS hok hce hcv hcl _ => ?_)
  refine vx_catch (own := RL) (name := zexn 1) (E := zexn 1) S.2.2.2.1 [⟨0, 12, 15, 25⟩] ⟨0, 12, 19, 13⟩ [⟨0, 12, 23, 19⟩] htab (fun z hz => by
    rw [List.mem_singleton.mp hz]
    exact Or.inr ⟨by decide, zexn 3, S.2.2.2.2 _ zcl_3, hNc.2.1⟩) rfl (by decide) (S.2.2.2.2 _ zcl_1) (va_Nw.use rfl (hTv.1 _ (List.mem_of_getElem? (i := 3) rfl))) hce hcv hcl ?_
  refine lv_astore (lv' := [(5, .ref q), (0, .ref (A 0)), (1, .int (Int32.ofInt x0)), (2, .int (Int32.ofInt x1)), (3, .int (Int32.ofInt x2)), (4, .ref o)]) hx hb (by decide +kernel : decode cL_addOperation 19 = .ok (.astore 5, 2)) hl (by decide) rfl (fun ls hl => ?_)
  refine lv_iconst (v := Int32.ofInt 2) hx hb (by decide +kernel : decode cL_addOperation 21 = .ok (.iconst 2, 1)) (by decide) ?_
  exact zHend hX hP hS hok ⟨by decide, by decide⟩ (by decide +kernel : decode cL_addOperation 22 = .ok (.ireturn, 1))
theorem hx_2_2 (l : Launch) (hfl : l.stackTraces = false) {σ σ1 : zSt} {f : Nat → Int64} {x0 x1 x2 : Int} (q0 : zr x0) (q1 : zr x1) (q2 : zr x2) (hσ : zoks σ) (h : zE 2 0 [some (zR 0), some (zI x0), some (zI x1), some (zI x2)] [] σ = some (.inr (2, σ1))) : zHCon l yL_addOperation cL_addOperation 6 [(0, 12, 15, 25), (0, 12, 19, 13), (0, 12, 23, 19)] [zI x0, zI x1, zI x2] σ f 3 σ1 f := by
  have hcon : zConX l 2 (zR 0 :: [zI x0, zI x1, zI x2]) σ 2 σ1 := zconX l hfl h zTh_2 zMk_2 (by decide +kernel) (Nat.le_of_ble_eq_true rfl) (by
    intro a ha
    simp only [List.mem_cons, List.not_mem_nil, or_false] at ha
    rcases ha with rfl | rfl | rfl | rfl <;> first | trivial | assumption) hσ
  refine zHel_of (by decide +kernel) rfl (fun p e s mid args below meth c A D cI cQ cL o hX => ⟨Nat.le_of_ble_eq_true rfl, fun ls hl => ?_⟩)
  obtain ⟨S, hr, hlk, hN, hK, hTv, hNc, hTs, hP, hD, htab⟩ := id hX
  have hx := S.1
  have hb := S.2.1
  have hS : va_S (va_A (zLW A cI cQ cL o σ f) s.heap.size) s.heap s.heap [] := va_S.rf
  have hA : ∀ q : Nat, s.heap.size ≤ q → va_A (zLW A cI cQ cL o σ f) s.heap.size q := fun q h => Or.inr h
  have hl : lv_has ls 6 [(0, .ref (A 0)), (1, .int (Int32.ofInt x0)), (2, .int (Int32.ofInt x1)), (3, .int (Int32.ofInt x2)), (4, .ref o)] := hl
  refine lv_aload hx hb (by decide +kernel : decode cL_addOperation 0 = .ok (.aload 4, 2)) (lv_at hl 4 rfl) ?_
  refine lv_iconst (v := 0) hx hb (by decide +kernel : decode cL_addOperation 2 = .ok (.iconst 0, 1)) (by decide) ?_
  refine lv_aload_n hx hb (by decide +kernel : decode cL_addOperation 3 = .ok (.aload_n 0, 1)) rfl (lv_at hl 0 rfl) ?_
  refine lv_iload_n hx hb (by decide +kernel : decode cL_addOperation 4 = .ok (.iload_n 1, 1)) rfl (lv_at hl 1 rfl) ?_
  refine lv_iload_n hx hb (by decide +kernel : decode cL_addOperation 5 = .ok (.iload_n 2, 1)) rfl (lv_at hl 2 rfl) ?_
  refine lv_iload_n hx hb (by decide +kernel : decode cL_addOperation 6 = .ok (.iload_n 3, 1)) rfl (lv_at hl 3 rfl) ?_
  refine zlc_X (k := 0) (ci := 5) (n := 3) (as := [zI x0, zI x1, zI x2]) (rest := [.int 0, .ref o]) S hcon (by decide) rfl rfl zlk_2 zli_2 zls_2 zMk_2 (by decide +kernel) rfl (by decide +kernel) (by decide +kernel) ⟨by decide, by decide⟩ hl.1 (Nat.le_of_ble_eq_true rfl) (by decide +kernel : decode cL_addOperation 7 = .ok (.invokevirtual 21, 3)) hK hN hTv hTs hP hD hS hA (fun H1 locs1 q ce hP hD hS hok hce hcv hcl _ => ?_)
  refine vx_catch (own := RL) (name := zexn 2) (E := zexn 2) S.2.2.2.1 [⟨0, 12, 15, 25⟩, ⟨0, 12, 19, 13⟩] ⟨0, 12, 23, 19⟩ [] htab (fun z hz => by
    rcases List.mem_cons.mp hz with e | hz
    · rw [e]
      exact Or.inr ⟨by decide, zexn 3, S.2.2.2.2 _ zcl_3, hNc.2.2⟩
    · rw [List.mem_singleton.mp hz]
      exact Or.inr ⟨by decide, zexn 1, S.2.2.2.2 _ zcl_1, hNc.1⟩) rfl (by decide) (S.2.2.2.2 _ zcl_2) (va_Nw.use rfl (hTv.1 _ (List.mem_of_getElem? (i := 4) rfl))) hce hcv hcl ?_
  refine lv_astore (lv' := [(5, .ref q), (0, .ref (A 0)), (1, .int (Int32.ofInt x0)), (2, .int (Int32.ofInt x1)), (3, .int (Int32.ofInt x2)), (4, .ref o)]) hx hb (by decide +kernel : decode cL_addOperation 23 = .ok (.astore 5, 2)) hl (by decide) rfl (fun ls hl => ?_)
  refine lv_iconst (v := Int32.ofInt 3) hx hb (by decide +kernel : decode cL_addOperation 25 = .ok (.iconst 3, 1)) (by decide) ?_
  exact zHend hX hP hS hok ⟨by decide, by decide⟩ (by decide +kernel : decode cL_addOperation 26 = .ok (.ireturn, 1))
theorem zlk_3 : Cond.methodLink RL 27 yX4_breakDown ∈ zWL := zwl 719 (by decide +kernel) rfl
theorem zli_3 : Cond.instanceMethod yX4_breakDown ∈ zWL := zwl 720 (by decide +kernel) rfl
theorem zls_3 : Cond.selects RX4 yX4_breakDown yX4_breakDown ∈ zWL := zwl 721 (by decide +kernel) rfl
theorem hr_3 (l : Launch) {σ σ1 : zSt} {f : Nat → Int64} {x0 x1 x2 : Int} (q0 : zr x0) (q1 : zr x1) (q2 : zr x2) {v : Int} (hσ : zoks σ) (h : zE 3 0 [some (zR 0), some (zI x0), some (zI x1), some (zI x2)] [] σ = zRI v σ1) : zHCon l yL_breakDown cL_breakDown 6 [(0, 12, 15, 25), (0, 12, 19, 13), (0, 12, 23, 19)] [zI x0, zI x1, zI x2] σ f 0 σ1 (vp_updL f 0 (zl v)) := by
  have hcon : zCon l 3 (zR 0 :: [zI x0, zI x1, zI x2]) σ (some (zI v)) σ1 := zE_con l h zMk_3 (Nat.le_of_ble_eq_true rfl) (by
    intro a ha
    simp only [List.mem_cons, List.not_mem_nil, or_false] at ha
    rcases ha with rfl | rfl | rfl | rfl <;> first | trivial | assumption) hσ
  refine zHel_of (by decide +kernel) rfl (fun p e s mid args below meth c A D cI cQ cL o hX => ⟨Nat.le_of_ble_eq_true rfl, fun ls hl => ?_⟩)
  obtain ⟨S, hr, hlk, hN, hK, hTv, hNc, hTs, hP, hD, htab⟩ := id hX
  have hx := S.1
  have hb := S.2.1
  have hS : va_S (va_A (zLW A cI cQ cL o σ f) s.heap.size) s.heap s.heap [] := va_S.rf
  have hA : ∀ q : Nat, s.heap.size ≤ q → va_A (zLW A cI cQ cL o σ f) s.heap.size q := fun q h => Or.inr h
  have hl : lv_has ls 6 [(0, .ref (A 0)), (1, .int (Int32.ofInt x0)), (2, .int (Int32.ofInt x1)), (3, .int (Int32.ofInt x2)), (4, .ref o)] := hl
  refine lv_aload hx hb (by decide +kernel : decode cL_breakDown 0 = .ok (.aload 4, 2)) (lv_at hl 4 rfl) ?_
  refine lv_iconst (v := 0) hx hb (by decide +kernel : decode cL_breakDown 2 = .ok (.iconst 0, 1)) (by decide) ?_
  refine lv_aload_n hx hb (by decide +kernel : decode cL_breakDown 3 = .ok (.aload_n 0, 1)) rfl (lv_at hl 0 rfl) ?_
  refine lv_iload_n hx hb (by decide +kernel : decode cL_breakDown 4 = .ok (.iload_n 1, 1)) rfl (lv_at hl 1 rfl) ?_
  refine lv_iload_n hx hb (by decide +kernel : decode cL_breakDown 5 = .ok (.iload_n 2, 1)) rfl (lv_at hl 2 rfl) ?_
  refine lv_iload_n hx hb (by decide +kernel : decode cL_breakDown 6 = .ok (.iload_n 3, 1)) rfl (lv_at hl 3 rfl) ?_
  refine zlc_V (k := 0) (ci := 5) (n := 3) (as := [zI x0, zI x1, zI x2]) (rest := [.int 0, .ref o]) S hcon (by decide) rfl rfl zlk_3 zli_3 zls_3 zMk_3 (by decide +kernel) rfl (by decide +kernel) (by decide +kernel) ⟨by decide, by decide⟩ hl.1 (Nat.le_of_ble_eq_true rfl) (by decide +kernel : decode cL_breakDown 7 = .ok (.invokevirtual 27, 3)) hK hN hP hD hS hA (fun H1 locs1 hP hD hS hok hvs _ => ?_)
  refine lv_i2l (v := zl v) hx hb (by decide +kernel : decode cL_breakDown 10 = .ok (.i2l, 1)) rfl ?_
  refine zlc_last hx hb hK hP hD hS (by decide +kernel : decode cL_breakDown 11 = .ok (.lastore, 1)) (fun H2 locs2 hP hD hS => ?_)
  refine lv_goto (tgt := 27) hx hb (by decide +kernel : decode cL_breakDown 12 = .ok (.goto 15, 3)) (by decide) ?_
  refine lv_iconst (v := Int32.ofInt 0) hx hb (by decide +kernel : decode cL_breakDown 27 = .ok (.iconst 0, 1)) (by decide) ?_
  exact zHend hX hP hS hok ⟨by decide, by decide⟩ (by decide +kernel : decode cL_breakDown 28 = .ok (.ireturn, 1))
theorem hx_3_0 (l : Launch) (hfl : l.stackTraces = false) {σ σ1 : zSt} {f : Nat → Int64} {x0 x1 x2 : Int} (q0 : zr x0) (q1 : zr x1) (q2 : zr x2) (hσ : zoks σ) (h : zE 3 0 [some (zR 0), some (zI x0), some (zI x1), some (zI x2)] [] σ = some (.inr (3, σ1))) : zHCon l yL_breakDown cL_breakDown 6 [(0, 12, 15, 25), (0, 12, 19, 13), (0, 12, 23, 19)] [zI x0, zI x1, zI x2] σ f 1 σ1 f := by
  have hcon : zConX l 3 (zR 0 :: [zI x0, zI x1, zI x2]) σ 3 σ1 := zconX l hfl h zTh_3 zMk_3 (by decide +kernel) (Nat.le_of_ble_eq_true rfl) (by
    intro a ha
    simp only [List.mem_cons, List.not_mem_nil, or_false] at ha
    rcases ha with rfl | rfl | rfl | rfl <;> first | trivial | assumption) hσ
  refine zHel_of (by decide +kernel) rfl (fun p e s mid args below meth c A D cI cQ cL o hX => ⟨Nat.le_of_ble_eq_true rfl, fun ls hl => ?_⟩)
  obtain ⟨S, hr, hlk, hN, hK, hTv, hNc, hTs, hP, hD, htab⟩ := id hX
  have hx := S.1
  have hb := S.2.1
  have hS : va_S (va_A (zLW A cI cQ cL o σ f) s.heap.size) s.heap s.heap [] := va_S.rf
  have hA : ∀ q : Nat, s.heap.size ≤ q → va_A (zLW A cI cQ cL o σ f) s.heap.size q := fun q h => Or.inr h
  have hl : lv_has ls 6 [(0, .ref (A 0)), (1, .int (Int32.ofInt x0)), (2, .int (Int32.ofInt x1)), (3, .int (Int32.ofInt x2)), (4, .ref o)] := hl
  refine lv_aload hx hb (by decide +kernel : decode cL_breakDown 0 = .ok (.aload 4, 2)) (lv_at hl 4 rfl) ?_
  refine lv_iconst (v := 0) hx hb (by decide +kernel : decode cL_breakDown 2 = .ok (.iconst 0, 1)) (by decide) ?_
  refine lv_aload_n hx hb (by decide +kernel : decode cL_breakDown 3 = .ok (.aload_n 0, 1)) rfl (lv_at hl 0 rfl) ?_
  refine lv_iload_n hx hb (by decide +kernel : decode cL_breakDown 4 = .ok (.iload_n 1, 1)) rfl (lv_at hl 1 rfl) ?_
  refine lv_iload_n hx hb (by decide +kernel : decode cL_breakDown 5 = .ok (.iload_n 2, 1)) rfl (lv_at hl 2 rfl) ?_
  refine lv_iload_n hx hb (by decide +kernel : decode cL_breakDown 6 = .ok (.iload_n 3, 1)) rfl (lv_at hl 3 rfl) ?_
  refine zlc_X (k := 0) (ci := 5) (n := 3) (as := [zI x0, zI x1, zI x2]) (rest := [.int 0, .ref o]) S hcon (by decide) rfl rfl zlk_3 zli_3 zls_3 zMk_3 (by decide +kernel) rfl (by decide +kernel) (by decide +kernel) ⟨by decide, by decide⟩ hl.1 (Nat.le_of_ble_eq_true rfl) (by decide +kernel : decode cL_breakDown 7 = .ok (.invokevirtual 27, 3)) hK hN hTv hTs hP hD hS hA (fun H1 locs1 q ce hP hD hS hok hce hcv hcl _ => ?_)
  refine vx_catch (own := RL) (name := zexn 3) (E := zexn 3) S.2.2.2.1 [] ⟨0, 12, 15, 25⟩ [⟨0, 12, 19, 13⟩, ⟨0, 12, 23, 19⟩] htab (fun z hz => by cases hz) rfl (by decide) (S.2.2.2.2 _ zcl_3) (va_Nw.use rfl (hTv.1 _ (List.mem_of_getElem? (i := 5) rfl))) hce hcv hcl ?_
  refine lv_astore (lv' := [(5, .ref q), (0, .ref (A 0)), (1, .int (Int32.ofInt x0)), (2, .int (Int32.ofInt x1)), (3, .int (Int32.ofInt x2)), (4, .ref o)]) hx hb (by decide +kernel : decode cL_breakDown 15 = .ok (.astore 5, 2)) hl (by decide) rfl (fun ls hl => ?_)
  refine lv_iconst (v := Int32.ofInt 1) hx hb (by decide +kernel : decode cL_breakDown 17 = .ok (.iconst 1, 1)) (by decide) ?_
  exact zHend hX hP hS hok ⟨by decide, by decide⟩ (by decide +kernel : decode cL_breakDown 18 = .ok (.ireturn, 1))
theorem hx_3_1 (l : Launch) (hfl : l.stackTraces = false) {σ σ1 : zSt} {f : Nat → Int64} {x0 x1 x2 : Int} (q0 : zr x0) (q1 : zr x1) (q2 : zr x2) (hσ : zoks σ) (h : zE 3 0 [some (zR 0), some (zI x0), some (zI x1), some (zI x2)] [] σ = some (.inr (1, σ1))) : zHCon l yL_breakDown cL_breakDown 6 [(0, 12, 15, 25), (0, 12, 19, 13), (0, 12, 23, 19)] [zI x0, zI x1, zI x2] σ f 2 σ1 f := by
  have hcon : zConX l 3 (zR 0 :: [zI x0, zI x1, zI x2]) σ 1 σ1 := zconX l hfl h zTh_3 zMk_3 (by decide +kernel) (Nat.le_of_ble_eq_true rfl) (by
    intro a ha
    simp only [List.mem_cons, List.not_mem_nil, or_false] at ha
    rcases ha with rfl | rfl | rfl | rfl <;> first | trivial | assumption) hσ
  refine zHel_of (by decide +kernel) rfl (fun p e s mid args below meth c A D cI cQ cL o hX => ⟨Nat.le_of_ble_eq_true rfl, fun ls hl => ?_⟩)
  obtain ⟨S, hr, hlk, hN, hK, hTv, hNc, hTs, hP, hD, htab⟩ := id hX
  have hx := S.1
  have hb := S.2.1
  have hS : va_S (va_A (zLW A cI cQ cL o σ f) s.heap.size) s.heap s.heap [] := va_S.rf
  have hA : ∀ q : Nat, s.heap.size ≤ q → va_A (zLW A cI cQ cL o σ f) s.heap.size q := fun q h => Or.inr h
  have hl : lv_has ls 6 [(0, .ref (A 0)), (1, .int (Int32.ofInt x0)), (2, .int (Int32.ofInt x1)), (3, .int (Int32.ofInt x2)), (4, .ref o)] := hl
  refine lv_aload hx hb (by decide +kernel : decode cL_breakDown 0 = .ok (.aload 4, 2)) (lv_at hl 4 rfl) ?_
  refine lv_iconst (v := 0) hx hb (by decide +kernel : decode cL_breakDown 2 = .ok (.iconst 0, 1)) (by decide) ?_
  refine lv_aload_n hx hb (by decide +kernel : decode cL_breakDown 3 = .ok (.aload_n 0, 1)) rfl (lv_at hl 0 rfl) ?_
  refine lv_iload_n hx hb (by decide +kernel : decode cL_breakDown 4 = .ok (.iload_n 1, 1)) rfl (lv_at hl 1 rfl) ?_
  refine lv_iload_n hx hb (by decide +kernel : decode cL_breakDown 5 = .ok (.iload_n 2, 1)) rfl (lv_at hl 2 rfl) ?_
  refine lv_iload_n hx hb (by decide +kernel : decode cL_breakDown 6 = .ok (.iload_n 3, 1)) rfl (lv_at hl 3 rfl) ?_
  refine zlc_X (k := 0) (ci := 5) (n := 3) (as := [zI x0, zI x1, zI x2]) (rest := [.int 0, .ref o]) S hcon (by decide) rfl rfl zlk_3 zli_3 zls_3 zMk_3 (by decide +kernel) rfl (by decide +kernel) (by decide +kernel) ⟨by decide, by decide⟩ hl.1 (Nat.le_of_ble_eq_true rfl) (by decide +kernel : decode cL_breakDown 7 = .ok (.invokevirtual 27, 3)) hK hN hTv hTs hP hD hS hA (fun H1 locs1 q ce hP hD hS hok hce hcv hcl _ => ?_)
  refine vx_catch (own := RL) (name := zexn 1) (E := zexn 1) S.2.2.2.1 [⟨0, 12, 15, 25⟩] ⟨0, 12, 19, 13⟩ [⟨0, 12, 23, 19⟩] htab (fun z hz => by
    rw [List.mem_singleton.mp hz]
    exact Or.inr ⟨by decide, zexn 3, S.2.2.2.2 _ zcl_3, hNc.2.1⟩) rfl (by decide) (S.2.2.2.2 _ zcl_1) (va_Nw.use rfl (hTv.1 _ (List.mem_of_getElem? (i := 3) rfl))) hce hcv hcl ?_
  refine lv_astore (lv' := [(5, .ref q), (0, .ref (A 0)), (1, .int (Int32.ofInt x0)), (2, .int (Int32.ofInt x1)), (3, .int (Int32.ofInt x2)), (4, .ref o)]) hx hb (by decide +kernel : decode cL_breakDown 19 = .ok (.astore 5, 2)) hl (by decide) rfl (fun ls hl => ?_)
  refine lv_iconst (v := Int32.ofInt 2) hx hb (by decide +kernel : decode cL_breakDown 21 = .ok (.iconst 2, 1)) (by decide) ?_
  exact zHend hX hP hS hok ⟨by decide, by decide⟩ (by decide +kernel : decode cL_breakDown 22 = .ok (.ireturn, 1))
theorem hx_3_2 (l : Launch) (hfl : l.stackTraces = false) {σ σ1 : zSt} {f : Nat → Int64} {x0 x1 x2 : Int} (q0 : zr x0) (q1 : zr x1) (q2 : zr x2) (hσ : zoks σ) (h : zE 3 0 [some (zR 0), some (zI x0), some (zI x1), some (zI x2)] [] σ = some (.inr (2, σ1))) : zHCon l yL_breakDown cL_breakDown 6 [(0, 12, 15, 25), (0, 12, 19, 13), (0, 12, 23, 19)] [zI x0, zI x1, zI x2] σ f 3 σ1 f := by
  have hcon : zConX l 3 (zR 0 :: [zI x0, zI x1, zI x2]) σ 2 σ1 := zconX l hfl h zTh_3 zMk_3 (by decide +kernel) (Nat.le_of_ble_eq_true rfl) (by
    intro a ha
    simp only [List.mem_cons, List.not_mem_nil, or_false] at ha
    rcases ha with rfl | rfl | rfl | rfl <;> first | trivial | assumption) hσ
  refine zHel_of (by decide +kernel) rfl (fun p e s mid args below meth c A D cI cQ cL o hX => ⟨Nat.le_of_ble_eq_true rfl, fun ls hl => ?_⟩)
  obtain ⟨S, hr, hlk, hN, hK, hTv, hNc, hTs, hP, hD, htab⟩ := id hX
  have hx := S.1
  have hb := S.2.1
  have hS : va_S (va_A (zLW A cI cQ cL o σ f) s.heap.size) s.heap s.heap [] := va_S.rf
  have hA : ∀ q : Nat, s.heap.size ≤ q → va_A (zLW A cI cQ cL o σ f) s.heap.size q := fun q h => Or.inr h
  have hl : lv_has ls 6 [(0, .ref (A 0)), (1, .int (Int32.ofInt x0)), (2, .int (Int32.ofInt x1)), (3, .int (Int32.ofInt x2)), (4, .ref o)] := hl
  refine lv_aload hx hb (by decide +kernel : decode cL_breakDown 0 = .ok (.aload 4, 2)) (lv_at hl 4 rfl) ?_
  refine lv_iconst (v := 0) hx hb (by decide +kernel : decode cL_breakDown 2 = .ok (.iconst 0, 1)) (by decide) ?_
  refine lv_aload_n hx hb (by decide +kernel : decode cL_breakDown 3 = .ok (.aload_n 0, 1)) rfl (lv_at hl 0 rfl) ?_
  refine lv_iload_n hx hb (by decide +kernel : decode cL_breakDown 4 = .ok (.iload_n 1, 1)) rfl (lv_at hl 1 rfl) ?_
  refine lv_iload_n hx hb (by decide +kernel : decode cL_breakDown 5 = .ok (.iload_n 2, 1)) rfl (lv_at hl 2 rfl) ?_
  refine lv_iload_n hx hb (by decide +kernel : decode cL_breakDown 6 = .ok (.iload_n 3, 1)) rfl (lv_at hl 3 rfl) ?_
  refine zlc_X (k := 0) (ci := 5) (n := 3) (as := [zI x0, zI x1, zI x2]) (rest := [.int 0, .ref o]) S hcon (by decide) rfl rfl zlk_3 zli_3 zls_3 zMk_3 (by decide +kernel) rfl (by decide +kernel) (by decide +kernel) ⟨by decide, by decide⟩ hl.1 (Nat.le_of_ble_eq_true rfl) (by decide +kernel : decode cL_breakDown 7 = .ok (.invokevirtual 27, 3)) hK hN hTv hTs hP hD hS hA (fun H1 locs1 q ce hP hD hS hok hce hcv hcl _ => ?_)
  refine vx_catch (own := RL) (name := zexn 2) (E := zexn 2) S.2.2.2.1 [⟨0, 12, 15, 25⟩, ⟨0, 12, 19, 13⟩] ⟨0, 12, 23, 19⟩ [] htab (fun z hz => by
    rcases List.mem_cons.mp hz with e | hz
    · rw [e]
      exact Or.inr ⟨by decide, zexn 3, S.2.2.2.2 _ zcl_3, hNc.2.2⟩
    · rw [List.mem_singleton.mp hz]
      exact Or.inr ⟨by decide, zexn 1, S.2.2.2.2 _ zcl_1, hNc.1⟩) rfl (by decide) (S.2.2.2.2 _ zcl_2) (va_Nw.use rfl (hTv.1 _ (List.mem_of_getElem? (i := 4) rfl))) hce hcv hcl ?_
  refine lv_astore (lv' := [(5, .ref q), (0, .ref (A 0)), (1, .int (Int32.ofInt x0)), (2, .int (Int32.ofInt x1)), (3, .int (Int32.ofInt x2)), (4, .ref o)]) hx hb (by decide +kernel : decode cL_breakDown 23 = .ok (.astore 5, 2)) hl (by decide) rfl (fun ls hl => ?_)
  refine lv_iconst (v := Int32.ofInt 3) hx hb (by decide +kernel : decode cL_breakDown 25 = .ok (.iconst 3, 1)) (by decide) ?_
  exact zHend hX hP hS hok ⟨by decide, by decide⟩ (by decide +kernel : decode cL_breakDown 26 = .ok (.ireturn, 1))
theorem zlk_4 : Cond.methodLink RL 30 yX4_repaired ∈ zWL := zwl 729 (by decide +kernel) rfl
theorem zli_4 : Cond.instanceMethod yX4_repaired ∈ zWL := zwl 730 (by decide +kernel) rfl
theorem zls_4 : Cond.selects RX4 yX4_repaired yX4_repaired ∈ zWL := zwl 731 (by decide +kernel) rfl
theorem hr_4 (l : Launch) {σ σ1 : zSt} {f : Nat → Int64}  {v : Int} (hσ : zoks σ) (h : zE 4 0 [some (zR 0)] [] σ = zRI v σ1) : zHCon l yL_repaired cL_repaired 3 [(0, 8, 11, 19)] [] σ f 0 σ1 (vp_updL f 0 (zl v)) := by
  have hcon : zCon l 4 (zR 0 :: []) σ (some (zI v)) σ1 := zE_con l h zMk_4 (Nat.le_of_ble_eq_true rfl) (by
    intro a ha
    rw [List.mem_singleton.mp ha]
    trivial) hσ
  refine zHel_of (by decide +kernel) rfl (fun p e s mid args below meth c A D cI cQ cL o hX => ⟨Nat.le_of_ble_eq_true rfl, fun ls hl => ?_⟩)
  obtain ⟨S, hr, hlk, hN, hK, hTv, hNc, hTs, hP, hD, htab⟩ := id hX
  have hx := S.1
  have hb := S.2.1
  have hS : va_S (va_A (zLW A cI cQ cL o σ f) s.heap.size) s.heap s.heap [] := va_S.rf
  have hA : ∀ q : Nat, s.heap.size ≤ q → va_A (zLW A cI cQ cL o σ f) s.heap.size q := fun q h => Or.inr h
  have hl : lv_has ls 3 [(0, .ref (A 0)), (1, .ref o)] := hl
  refine lv_aload_n hx hb (by decide +kernel : decode cL_repaired 0 = .ok (.aload_n 1, 1)) rfl (lv_at hl 1 rfl) ?_
  refine lv_iconst (v := 0) hx hb (by decide +kernel : decode cL_repaired 1 = .ok (.iconst 0, 1)) (by decide) ?_
  refine lv_aload_n hx hb (by decide +kernel : decode cL_repaired 2 = .ok (.aload_n 0, 1)) rfl (lv_at hl 0 rfl) ?_
  refine zlc_V (k := 0) (ci := 5) (n := 0) (as := []) (rest := [.int 0, .ref o]) S hcon (by decide) rfl rfl zlk_4 zli_4 zls_4 zMk_4 (by decide +kernel) rfl (by decide +kernel) (by decide +kernel) ⟨by decide, by decide⟩ hl.1 (Nat.le_of_ble_eq_true rfl) (by decide +kernel : decode cL_repaired 3 = .ok (.invokevirtual 30, 3)) hK hN hP hD hS hA (fun H1 locs1 hP hD hS hok hvs _ => ?_)
  refine lv_i2l (v := zl v) hx hb (by decide +kernel : decode cL_repaired 6 = .ok (.i2l, 1)) rfl ?_
  refine zlc_last hx hb hK hP hD hS (by decide +kernel : decode cL_repaired 7 = .ok (.lastore, 1)) (fun H2 locs2 hP hD hS => ?_)
  refine lv_goto (tgt := 14) hx hb (by decide +kernel : decode cL_repaired 8 = .ok (.goto 6, 3)) (by decide) ?_
  refine lv_iconst (v := Int32.ofInt 0) hx hb (by decide +kernel : decode cL_repaired 14 = .ok (.iconst 0, 1)) (by decide) ?_
  exact zHend hX hP hS hok ⟨by decide, by decide⟩ (by decide +kernel : decode cL_repaired 15 = .ok (.ireturn, 1))
theorem hx_4_0 (l : Launch) (hfl : l.stackTraces = false) {σ σ1 : zSt} {f : Nat → Int64}  (hσ : zoks σ) (h : zE 4 0 [some (zR 0)] [] σ = some (.inr (2, σ1))) : zHCon l yL_repaired cL_repaired 3 [(0, 8, 11, 19)] [] σ f 1 σ1 f := by
  have hcon : zConX l 4 (zR 0 :: []) σ 2 σ1 := zconX l hfl h zTh_4 zMk_4 (by decide +kernel) (Nat.le_of_ble_eq_true rfl) (by
    intro a ha
    rw [List.mem_singleton.mp ha]
    trivial) hσ
  refine zHel_of (by decide +kernel) rfl (fun p e s mid args below meth c A D cI cQ cL o hX => ⟨Nat.le_of_ble_eq_true rfl, fun ls hl => ?_⟩)
  obtain ⟨S, hr, hlk, hN, hK, hTv, hNc, hTs, hP, hD, htab⟩ := id hX
  have hx := S.1
  have hb := S.2.1
  have hS : va_S (va_A (zLW A cI cQ cL o σ f) s.heap.size) s.heap s.heap [] := va_S.rf
  have hA : ∀ q : Nat, s.heap.size ≤ q → va_A (zLW A cI cQ cL o σ f) s.heap.size q := fun q h => Or.inr h
  have hl : lv_has ls 3 [(0, .ref (A 0)), (1, .ref o)] := hl
  refine lv_aload_n hx hb (by decide +kernel : decode cL_repaired 0 = .ok (.aload_n 1, 1)) rfl (lv_at hl 1 rfl) ?_
  refine lv_iconst (v := 0) hx hb (by decide +kernel : decode cL_repaired 1 = .ok (.iconst 0, 1)) (by decide) ?_
  refine lv_aload_n hx hb (by decide +kernel : decode cL_repaired 2 = .ok (.aload_n 0, 1)) rfl (lv_at hl 0 rfl) ?_
  refine zlc_X (k := 0) (ci := 5) (n := 0) (as := []) (rest := [.int 0, .ref o]) S hcon (by decide) rfl rfl zlk_4 zli_4 zls_4 zMk_4 (by decide +kernel) rfl (by decide +kernel) (by decide +kernel) ⟨by decide, by decide⟩ hl.1 (Nat.le_of_ble_eq_true rfl) (by decide +kernel : decode cL_repaired 3 = .ok (.invokevirtual 30, 3)) hK hN hTv hTs hP hD hS hA (fun H1 locs1 q ce hP hD hS hok hce hcv hcl _ => ?_)
  refine vx_catch (own := RL) (name := zexn 2) (E := zexn 2) S.2.2.2.1 [] ⟨0, 8, 11, 19⟩ [] htab (fun z hz => by cases hz) rfl (by decide) (S.2.2.2.2 _ zcl_2) (va_Nw.use rfl (hTv.1 _ (List.mem_of_getElem? (i := 4) rfl))) hce hcv hcl ?_
  refine lv_astore_n (lv' := [(2, .ref q), (0, .ref (A 0)), (1, .ref o)]) hx hb (by decide +kernel : decode cL_repaired 11 = .ok (.astore_n 2, 1)) rfl hl (by decide) rfl (fun ls hl => ?_)
  refine lv_iconst (v := Int32.ofInt 1) hx hb (by decide +kernel : decode cL_repaired 12 = .ok (.iconst 1, 1)) (by decide) ?_
  exact zHend hX hP hS hok ⟨by decide, by decide⟩ (by decide +kernel : decode cL_repaired 13 = .ok (.ireturn, 1))
theorem zlk_5 : Cond.methodLink RL 34 yX4_plan ∈ zWL := zwl 737 (by decide +kernel) rfl
theorem zli_5 : Cond.instanceMethod yX4_plan ∈ zWL := zwl 738 (by decide +kernel) rfl
theorem zls_5 : Cond.selects RX4 yX4_plan yX4_plan ∈ zWL := zwl 739 (by decide +kernel) rfl
theorem hr_5 (l : Launch) {σ σ1 : zSt} {f : Nat → Int64} {x0 : Int} (q0 : zr x0) {v : Int} (hσ : zoks σ) (h : zE 5 0 [some (zR 0), some (zI x0)] [] σ = zRI v σ1) : zHCon l yL_plan cL_plan 4 [(0, 9, 12, 13)] [zI x0] σ f 0 σ1 (vp_updL f 0 (zl v)) := by
  have hcon : zCon l 5 (zR 0 :: [zI x0]) σ (some (zI v)) σ1 := zE_con l h zMk_5 (Nat.le_of_ble_eq_true rfl) (by
    intro a ha
    simp only [List.mem_cons, List.not_mem_nil, or_false] at ha
    rcases ha with rfl | rfl <;> first | trivial | assumption) hσ
  refine zHel_of (by decide +kernel) rfl (fun p e s mid args below meth c A D cI cQ cL o hX => ⟨Nat.le_of_ble_eq_true rfl, fun ls hl => ?_⟩)
  obtain ⟨S, hr, hlk, hN, hK, hTv, hNc, hTs, hP, hD, htab⟩ := id hX
  have hx := S.1
  have hb := S.2.1
  have hS : va_S (va_A (zLW A cI cQ cL o σ f) s.heap.size) s.heap s.heap [] := va_S.rf
  have hA : ∀ q : Nat, s.heap.size ≤ q → va_A (zLW A cI cQ cL o σ f) s.heap.size q := fun q h => Or.inr h
  have hl : lv_has ls 4 [(0, .ref (A 0)), (1, .int (Int32.ofInt x0)), (2, .ref o)] := hl
  refine lv_aload_n hx hb (by decide +kernel : decode cL_plan 0 = .ok (.aload_n 2, 1)) rfl (lv_at hl 2 rfl) ?_
  refine lv_iconst (v := 0) hx hb (by decide +kernel : decode cL_plan 1 = .ok (.iconst 0, 1)) (by decide) ?_
  refine lv_aload_n hx hb (by decide +kernel : decode cL_plan 2 = .ok (.aload_n 0, 1)) rfl (lv_at hl 0 rfl) ?_
  refine lv_iload_n hx hb (by decide +kernel : decode cL_plan 3 = .ok (.iload_n 1, 1)) rfl (lv_at hl 1 rfl) ?_
  refine zlc_V (k := 0) (ci := 5) (n := 1) (as := [zI x0]) (rest := [.int 0, .ref o]) S hcon (by decide) rfl rfl zlk_5 zli_5 zls_5 zMk_5 (by decide +kernel) rfl (by decide +kernel) (by decide +kernel) ⟨by decide, by decide⟩ hl.1 (Nat.le_of_ble_eq_true rfl) (by decide +kernel : decode cL_plan 4 = .ok (.invokevirtual 34, 3)) hK hN hP hD hS hA (fun H1 locs1 hP hD hS hok hvs _ => ?_)
  refine lv_i2l (v := zl v) hx hb (by decide +kernel : decode cL_plan 7 = .ok (.i2l, 1)) rfl ?_
  refine zlc_last hx hb hK hP hD hS (by decide +kernel : decode cL_plan 8 = .ok (.lastore, 1)) (fun H2 locs2 hP hD hS => ?_)
  refine lv_goto (tgt := 15) hx hb (by decide +kernel : decode cL_plan 9 = .ok (.goto 6, 3)) (by decide) ?_
  refine lv_iconst (v := Int32.ofInt 0) hx hb (by decide +kernel : decode cL_plan 15 = .ok (.iconst 0, 1)) (by decide) ?_
  exact zHend hX hP hS hok ⟨by decide, by decide⟩ (by decide +kernel : decode cL_plan 16 = .ok (.ireturn, 1))
theorem hx_5_0 (l : Launch) (hfl : l.stackTraces = false) {σ σ1 : zSt} {f : Nat → Int64} {x0 : Int} (q0 : zr x0) (hσ : zoks σ) (h : zE 5 0 [some (zR 0), some (zI x0)] [] σ = some (.inr (1, σ1))) : zHCon l yL_plan cL_plan 4 [(0, 9, 12, 13)] [zI x0] σ f 1 σ1 f := by
  have hcon : zConX l 5 (zR 0 :: [zI x0]) σ 1 σ1 := zconX l hfl h zTh_5 zMk_5 (by decide +kernel) (Nat.le_of_ble_eq_true rfl) (by
    intro a ha
    simp only [List.mem_cons, List.not_mem_nil, or_false] at ha
    rcases ha with rfl | rfl <;> first | trivial | assumption) hσ
  refine zHel_of (by decide +kernel) rfl (fun p e s mid args below meth c A D cI cQ cL o hX => ⟨Nat.le_of_ble_eq_true rfl, fun ls hl => ?_⟩)
  obtain ⟨S, hr, hlk, hN, hK, hTv, hNc, hTs, hP, hD, htab⟩ := id hX
  have hx := S.1
  have hb := S.2.1
  have hS : va_S (va_A (zLW A cI cQ cL o σ f) s.heap.size) s.heap s.heap [] := va_S.rf
  have hA : ∀ q : Nat, s.heap.size ≤ q → va_A (zLW A cI cQ cL o σ f) s.heap.size q := fun q h => Or.inr h
  have hl : lv_has ls 4 [(0, .ref (A 0)), (1, .int (Int32.ofInt x0)), (2, .ref o)] := hl
  refine lv_aload_n hx hb (by decide +kernel : decode cL_plan 0 = .ok (.aload_n 2, 1)) rfl (lv_at hl 2 rfl) ?_
  refine lv_iconst (v := 0) hx hb (by decide +kernel : decode cL_plan 1 = .ok (.iconst 0, 1)) (by decide) ?_
  refine lv_aload_n hx hb (by decide +kernel : decode cL_plan 2 = .ok (.aload_n 0, 1)) rfl (lv_at hl 0 rfl) ?_
  refine lv_iload_n hx hb (by decide +kernel : decode cL_plan 3 = .ok (.iload_n 1, 1)) rfl (lv_at hl 1 rfl) ?_
  refine zlc_X (k := 0) (ci := 5) (n := 1) (as := [zI x0]) (rest := [.int 0, .ref o]) S hcon (by decide) rfl rfl zlk_5 zli_5 zls_5 zMk_5 (by decide +kernel) rfl (by decide +kernel) (by decide +kernel) ⟨by decide, by decide⟩ hl.1 (Nat.le_of_ble_eq_true rfl) (by decide +kernel : decode cL_plan 4 = .ok (.invokevirtual 34, 3)) hK hN hTv hTs hP hD hS hA (fun H1 locs1 q ce hP hD hS hok hce hcv hcl _ => ?_)
  refine vx_catch (own := RL) (name := zexn 1) (E := zexn 1) S.2.2.2.1 [] ⟨0, 9, 12, 13⟩ [] htab (fun z hz => by cases hz) rfl (by decide) (S.2.2.2.2 _ zcl_1) (va_Nw.use rfl (hTv.1 _ (List.mem_of_getElem? (i := 3) rfl))) hce hcv hcl ?_
  refine lv_astore_n (lv' := [(3, .ref q), (0, .ref (A 0)), (1, .int (Int32.ofInt x0)), (2, .ref o)]) hx hb (by decide +kernel : decode cL_plan 12 = .ok (.astore_n 3, 1)) rfl hl (by decide) rfl (fun ls hl => ?_)
  refine lv_iconst (v := Int32.ofInt 1) hx hb (by decide +kernel : decode cL_plan 13 = .ok (.iconst 1, 1)) (by decide) ?_
  exact zHend hX hP hS hok ⟨by decide, by decide⟩ (by decide +kernel : decode cL_plan 14 = .ok (.ireturn, 1))
theorem zlk_6 : Cond.methodLink RL 37 yX4_shift ∈ zWL := zwl 748 (by decide +kernel) rfl
theorem zli_6 : Cond.instanceMethod yX4_shift ∈ zWL := zwl 749 (by decide +kernel) rfl
theorem zls_6 : Cond.selects RX4 yX4_shift yX4_shift ∈ zWL := zwl 750 (by decide +kernel) rfl
theorem hr_6 (l : Launch) {σ σ1 : zSt} {f : Nat → Int64}  {v : Int} (hσ : zoks σ) (h : zE 6 0 [some (zR 0)] [] σ = zRI v σ1) : zHCon l yL_shift cL_shift 3 [(0, 8, 11, 19)] [] σ f 0 σ1 (vp_updL f 0 (zl v)) := by
  have hcon : zCon l 6 (zR 0 :: []) σ (some (zI v)) σ1 := zE_con l h zMk_6 (Nat.le_of_ble_eq_true rfl) (by
    intro a ha
    rw [List.mem_singleton.mp ha]
    trivial) hσ
  refine zHel_of (by decide +kernel) rfl (fun p e s mid args below meth c A D cI cQ cL o hX => ⟨Nat.le_of_ble_eq_true rfl, fun ls hl => ?_⟩)
  obtain ⟨S, hr, hlk, hN, hK, hTv, hNc, hTs, hP, hD, htab⟩ := id hX
  have hx := S.1
  have hb := S.2.1
  have hS : va_S (va_A (zLW A cI cQ cL o σ f) s.heap.size) s.heap s.heap [] := va_S.rf
  have hA : ∀ q : Nat, s.heap.size ≤ q → va_A (zLW A cI cQ cL o σ f) s.heap.size q := fun q h => Or.inr h
  have hl : lv_has ls 3 [(0, .ref (A 0)), (1, .ref o)] := hl
  refine lv_aload_n hx hb (by decide +kernel : decode cL_shift 0 = .ok (.aload_n 1, 1)) rfl (lv_at hl 1 rfl) ?_
  refine lv_iconst (v := 0) hx hb (by decide +kernel : decode cL_shift 1 = .ok (.iconst 0, 1)) (by decide) ?_
  refine lv_aload_n hx hb (by decide +kernel : decode cL_shift 2 = .ok (.aload_n 0, 1)) rfl (lv_at hl 0 rfl) ?_
  refine zlc_V (k := 0) (ci := 5) (n := 0) (as := []) (rest := [.int 0, .ref o]) S hcon (by decide) rfl rfl zlk_6 zli_6 zls_6 zMk_6 (by decide +kernel) rfl (by decide +kernel) (by decide +kernel) ⟨by decide, by decide⟩ hl.1 (Nat.le_of_ble_eq_true rfl) (by decide +kernel : decode cL_shift 3 = .ok (.invokevirtual 37, 3)) hK hN hP hD hS hA (fun H1 locs1 hP hD hS hok hvs _ => ?_)
  refine lv_i2l (v := zl v) hx hb (by decide +kernel : decode cL_shift 6 = .ok (.i2l, 1)) rfl ?_
  refine zlc_last hx hb hK hP hD hS (by decide +kernel : decode cL_shift 7 = .ok (.lastore, 1)) (fun H2 locs2 hP hD hS => ?_)
  refine lv_goto (tgt := 14) hx hb (by decide +kernel : decode cL_shift 8 = .ok (.goto 6, 3)) (by decide) ?_
  refine lv_iconst (v := Int32.ofInt 0) hx hb (by decide +kernel : decode cL_shift 14 = .ok (.iconst 0, 1)) (by decide) ?_
  exact zHend hX hP hS hok ⟨by decide, by decide⟩ (by decide +kernel : decode cL_shift 15 = .ok (.ireturn, 1))
theorem hx_6_0 (l : Launch) (hfl : l.stackTraces = false) {σ σ1 : zSt} {f : Nat → Int64}  (hσ : zoks σ) (h : zE 6 0 [some (zR 0)] [] σ = some (.inr (2, σ1))) : zHCon l yL_shift cL_shift 3 [(0, 8, 11, 19)] [] σ f 1 σ1 f := by
  have hcon : zConX l 6 (zR 0 :: []) σ 2 σ1 := zconX l hfl h zTh_6 zMk_6 (by decide +kernel) (Nat.le_of_ble_eq_true rfl) (by
    intro a ha
    rw [List.mem_singleton.mp ha]
    trivial) hσ
  refine zHel_of (by decide +kernel) rfl (fun p e s mid args below meth c A D cI cQ cL o hX => ⟨Nat.le_of_ble_eq_true rfl, fun ls hl => ?_⟩)
  obtain ⟨S, hr, hlk, hN, hK, hTv, hNc, hTs, hP, hD, htab⟩ := id hX
  have hx := S.1
  have hb := S.2.1
  have hS : va_S (va_A (zLW A cI cQ cL o σ f) s.heap.size) s.heap s.heap [] := va_S.rf
  have hA : ∀ q : Nat, s.heap.size ≤ q → va_A (zLW A cI cQ cL o σ f) s.heap.size q := fun q h => Or.inr h
  have hl : lv_has ls 3 [(0, .ref (A 0)), (1, .ref o)] := hl
  refine lv_aload_n hx hb (by decide +kernel : decode cL_shift 0 = .ok (.aload_n 1, 1)) rfl (lv_at hl 1 rfl) ?_
  refine lv_iconst (v := 0) hx hb (by decide +kernel : decode cL_shift 1 = .ok (.iconst 0, 1)) (by decide) ?_
  refine lv_aload_n hx hb (by decide +kernel : decode cL_shift 2 = .ok (.aload_n 0, 1)) rfl (lv_at hl 0 rfl) ?_
  refine zlc_X (k := 0) (ci := 5) (n := 0) (as := []) (rest := [.int 0, .ref o]) S hcon (by decide) rfl rfl zlk_6 zli_6 zls_6 zMk_6 (by decide +kernel) rfl (by decide +kernel) (by decide +kernel) ⟨by decide, by decide⟩ hl.1 (Nat.le_of_ble_eq_true rfl) (by decide +kernel : decode cL_shift 3 = .ok (.invokevirtual 37, 3)) hK hN hTv hTs hP hD hS hA (fun H1 locs1 q ce hP hD hS hok hce hcv hcl _ => ?_)
  refine vx_catch (own := RL) (name := zexn 2) (E := zexn 2) S.2.2.2.1 [] ⟨0, 8, 11, 19⟩ [] htab (fun z hz => by cases hz) rfl (by decide) (S.2.2.2.2 _ zcl_2) (va_Nw.use rfl (hTv.1 _ (List.mem_of_getElem? (i := 4) rfl))) hce hcv hcl ?_
  refine lv_astore_n (lv' := [(2, .ref q), (0, .ref (A 0)), (1, .ref o)]) hx hb (by decide +kernel : decode cL_shift 11 = .ok (.astore_n 2, 1)) rfl hl (by decide) rfl (fun ls hl => ?_)
  refine lv_iconst (v := Int32.ofInt 1) hx hb (by decide +kernel : decode cL_shift 12 = .ok (.iconst 1, 1)) (by decide) ?_
  exact zHend hX hP hS hok ⟨by decide, by decide⟩ (by decide +kernel : decode cL_shift 13 = .ok (.ireturn, 1))
theorem zlk_7 : Cond.methodLink RL 40 yX4_replan ∈ zWL := zwl 756 (by decide +kernel) rfl
theorem zli_7 : Cond.instanceMethod yX4_replan ∈ zWL := zwl 757 (by decide +kernel) rfl
theorem zls_7 : Cond.selects RX4 yX4_replan yX4_replan ∈ zWL := zwl 758 (by decide +kernel) rfl
theorem hr_7 (l : Launch) {σ σ1 : zSt} {f : Nat → Int64} {x0 x1 : Int} (q0 : zr x0) (q1 : zr x1) {v : Int} (hσ : zoks σ) (h : zE 7 0 [some (zR 0), some (zI x0), some (zI x1)] [] σ = zRI v σ1) : zHCon l yL_replan cL_replan 5 [(0, 10, 13, 13), (0, 10, 17, 19)] [zI x0, zI x1] σ f 0 σ1 (vp_updL f 0 (zl v)) := by
  have hcon : zCon l 7 (zR 0 :: [zI x0, zI x1]) σ (some (zI v)) σ1 := zE_con l h zMk_7 (Nat.le_of_ble_eq_true rfl) (by
    intro a ha
    simp only [List.mem_cons, List.not_mem_nil, or_false] at ha
    rcases ha with rfl | rfl | rfl <;> first | trivial | assumption) hσ
  refine zHel_of (by decide +kernel) rfl (fun p e s mid args below meth c A D cI cQ cL o hX => ⟨Nat.le_of_ble_eq_true rfl, fun ls hl => ?_⟩)
  obtain ⟨S, hr, hlk, hN, hK, hTv, hNc, hTs, hP, hD, htab⟩ := id hX
  have hx := S.1
  have hb := S.2.1
  have hS : va_S (va_A (zLW A cI cQ cL o σ f) s.heap.size) s.heap s.heap [] := va_S.rf
  have hA : ∀ q : Nat, s.heap.size ≤ q → va_A (zLW A cI cQ cL o σ f) s.heap.size q := fun q h => Or.inr h
  have hl : lv_has ls 5 [(0, .ref (A 0)), (1, .int (Int32.ofInt x0)), (2, .int (Int32.ofInt x1)), (3, .ref o)] := hl
  refine lv_aload_n hx hb (by decide +kernel : decode cL_replan 0 = .ok (.aload_n 3, 1)) rfl (lv_at hl 3 rfl) ?_
  refine lv_iconst (v := 0) hx hb (by decide +kernel : decode cL_replan 1 = .ok (.iconst 0, 1)) (by decide) ?_
  refine lv_aload_n hx hb (by decide +kernel : decode cL_replan 2 = .ok (.aload_n 0, 1)) rfl (lv_at hl 0 rfl) ?_
  refine lv_iload_n hx hb (by decide +kernel : decode cL_replan 3 = .ok (.iload_n 1, 1)) rfl (lv_at hl 1 rfl) ?_
  refine lv_iload_n hx hb (by decide +kernel : decode cL_replan 4 = .ok (.iload_n 2, 1)) rfl (lv_at hl 2 rfl) ?_
  refine zlc_V (k := 0) (ci := 5) (n := 2) (as := [zI x0, zI x1]) (rest := [.int 0, .ref o]) S hcon (by decide) rfl rfl zlk_7 zli_7 zls_7 zMk_7 (by decide +kernel) rfl (by decide +kernel) (by decide +kernel) ⟨by decide, by decide⟩ hl.1 (Nat.le_of_ble_eq_true rfl) (by decide +kernel : decode cL_replan 5 = .ok (.invokevirtual 40, 3)) hK hN hP hD hS hA (fun H1 locs1 hP hD hS hok hvs _ => ?_)
  refine lv_i2l (v := zl v) hx hb (by decide +kernel : decode cL_replan 8 = .ok (.i2l, 1)) rfl ?_
  refine zlc_last hx hb hK hP hD hS (by decide +kernel : decode cL_replan 9 = .ok (.lastore, 1)) (fun H2 locs2 hP hD hS => ?_)
  refine lv_goto (tgt := 21) hx hb (by decide +kernel : decode cL_replan 10 = .ok (.goto 11, 3)) (by decide) ?_
  refine lv_iconst (v := Int32.ofInt 0) hx hb (by decide +kernel : decode cL_replan 21 = .ok (.iconst 0, 1)) (by decide) ?_
  exact zHend hX hP hS hok ⟨by decide, by decide⟩ (by decide +kernel : decode cL_replan 22 = .ok (.ireturn, 1))
theorem hx_7_0 (l : Launch) (hfl : l.stackTraces = false) {σ σ1 : zSt} {f : Nat → Int64} {x0 x1 : Int} (q0 : zr x0) (q1 : zr x1) (hσ : zoks σ) (h : zE 7 0 [some (zR 0), some (zI x0), some (zI x1)] [] σ = some (.inr (1, σ1))) : zHCon l yL_replan cL_replan 5 [(0, 10, 13, 13), (0, 10, 17, 19)] [zI x0, zI x1] σ f 1 σ1 f := by
  have hcon : zConX l 7 (zR 0 :: [zI x0, zI x1]) σ 1 σ1 := zconX l hfl h zTh_7 zMk_7 (by decide +kernel) (Nat.le_of_ble_eq_true rfl) (by
    intro a ha
    simp only [List.mem_cons, List.not_mem_nil, or_false] at ha
    rcases ha with rfl | rfl | rfl <;> first | trivial | assumption) hσ
  refine zHel_of (by decide +kernel) rfl (fun p e s mid args below meth c A D cI cQ cL o hX => ⟨Nat.le_of_ble_eq_true rfl, fun ls hl => ?_⟩)
  obtain ⟨S, hr, hlk, hN, hK, hTv, hNc, hTs, hP, hD, htab⟩ := id hX
  have hx := S.1
  have hb := S.2.1
  have hS : va_S (va_A (zLW A cI cQ cL o σ f) s.heap.size) s.heap s.heap [] := va_S.rf
  have hA : ∀ q : Nat, s.heap.size ≤ q → va_A (zLW A cI cQ cL o σ f) s.heap.size q := fun q h => Or.inr h
  have hl : lv_has ls 5 [(0, .ref (A 0)), (1, .int (Int32.ofInt x0)), (2, .int (Int32.ofInt x1)), (3, .ref o)] := hl
  refine lv_aload_n hx hb (by decide +kernel : decode cL_replan 0 = .ok (.aload_n 3, 1)) rfl (lv_at hl 3 rfl) ?_
  refine lv_iconst (v := 0) hx hb (by decide +kernel : decode cL_replan 1 = .ok (.iconst 0, 1)) (by decide) ?_
  refine lv_aload_n hx hb (by decide +kernel : decode cL_replan 2 = .ok (.aload_n 0, 1)) rfl (lv_at hl 0 rfl) ?_
  refine lv_iload_n hx hb (by decide +kernel : decode cL_replan 3 = .ok (.iload_n 1, 1)) rfl (lv_at hl 1 rfl) ?_
  refine lv_iload_n hx hb (by decide +kernel : decode cL_replan 4 = .ok (.iload_n 2, 1)) rfl (lv_at hl 2 rfl) ?_
  refine zlc_X (k := 0) (ci := 5) (n := 2) (as := [zI x0, zI x1]) (rest := [.int 0, .ref o]) S hcon (by decide) rfl rfl zlk_7 zli_7 zls_7 zMk_7 (by decide +kernel) rfl (by decide +kernel) (by decide +kernel) ⟨by decide, by decide⟩ hl.1 (Nat.le_of_ble_eq_true rfl) (by decide +kernel : decode cL_replan 5 = .ok (.invokevirtual 40, 3)) hK hN hTv hTs hP hD hS hA (fun H1 locs1 q ce hP hD hS hok hce hcv hcl _ => ?_)
  refine vx_catch (own := RL) (name := zexn 1) (E := zexn 1) S.2.2.2.1 [] ⟨0, 10, 13, 13⟩ [⟨0, 10, 17, 19⟩] htab (fun z hz => by cases hz) rfl (by decide) (S.2.2.2.2 _ zcl_1) (va_Nw.use rfl (hTv.1 _ (List.mem_of_getElem? (i := 3) rfl))) hce hcv hcl ?_
  refine lv_astore (lv' := [(4, .ref q), (0, .ref (A 0)), (1, .int (Int32.ofInt x0)), (2, .int (Int32.ofInt x1)), (3, .ref o)]) hx hb (by decide +kernel : decode cL_replan 13 = .ok (.astore 4, 2)) hl (by decide) rfl (fun ls hl => ?_)
  refine lv_iconst (v := Int32.ofInt 1) hx hb (by decide +kernel : decode cL_replan 15 = .ok (.iconst 1, 1)) (by decide) ?_
  exact zHend hX hP hS hok ⟨by decide, by decide⟩ (by decide +kernel : decode cL_replan 16 = .ok (.ireturn, 1))
theorem hx_7_1 (l : Launch) (hfl : l.stackTraces = false) {σ σ1 : zSt} {f : Nat → Int64} {x0 x1 : Int} (q0 : zr x0) (q1 : zr x1) (hσ : zoks σ) (h : zE 7 0 [some (zR 0), some (zI x0), some (zI x1)] [] σ = some (.inr (2, σ1))) : zHCon l yL_replan cL_replan 5 [(0, 10, 13, 13), (0, 10, 17, 19)] [zI x0, zI x1] σ f 2 σ1 f := by
  have hcon : zConX l 7 (zR 0 :: [zI x0, zI x1]) σ 2 σ1 := zconX l hfl h zTh_7 zMk_7 (by decide +kernel) (Nat.le_of_ble_eq_true rfl) (by
    intro a ha
    simp only [List.mem_cons, List.not_mem_nil, or_false] at ha
    rcases ha with rfl | rfl | rfl <;> first | trivial | assumption) hσ
  refine zHel_of (by decide +kernel) rfl (fun p e s mid args below meth c A D cI cQ cL o hX => ⟨Nat.le_of_ble_eq_true rfl, fun ls hl => ?_⟩)
  obtain ⟨S, hr, hlk, hN, hK, hTv, hNc, hTs, hP, hD, htab⟩ := id hX
  have hx := S.1
  have hb := S.2.1
  have hS : va_S (va_A (zLW A cI cQ cL o σ f) s.heap.size) s.heap s.heap [] := va_S.rf
  have hA : ∀ q : Nat, s.heap.size ≤ q → va_A (zLW A cI cQ cL o σ f) s.heap.size q := fun q h => Or.inr h
  have hl : lv_has ls 5 [(0, .ref (A 0)), (1, .int (Int32.ofInt x0)), (2, .int (Int32.ofInt x1)), (3, .ref o)] := hl
  refine lv_aload_n hx hb (by decide +kernel : decode cL_replan 0 = .ok (.aload_n 3, 1)) rfl (lv_at hl 3 rfl) ?_
  refine lv_iconst (v := 0) hx hb (by decide +kernel : decode cL_replan 1 = .ok (.iconst 0, 1)) (by decide) ?_
  refine lv_aload_n hx hb (by decide +kernel : decode cL_replan 2 = .ok (.aload_n 0, 1)) rfl (lv_at hl 0 rfl) ?_
  refine lv_iload_n hx hb (by decide +kernel : decode cL_replan 3 = .ok (.iload_n 1, 1)) rfl (lv_at hl 1 rfl) ?_
  refine lv_iload_n hx hb (by decide +kernel : decode cL_replan 4 = .ok (.iload_n 2, 1)) rfl (lv_at hl 2 rfl) ?_
  refine zlc_X (k := 0) (ci := 5) (n := 2) (as := [zI x0, zI x1]) (rest := [.int 0, .ref o]) S hcon (by decide) rfl rfl zlk_7 zli_7 zls_7 zMk_7 (by decide +kernel) rfl (by decide +kernel) (by decide +kernel) ⟨by decide, by decide⟩ hl.1 (Nat.le_of_ble_eq_true rfl) (by decide +kernel : decode cL_replan 5 = .ok (.invokevirtual 40, 3)) hK hN hTv hTs hP hD hS hA (fun H1 locs1 q ce hP hD hS hok hce hcv hcl _ => ?_)
  refine vx_catch (own := RL) (name := zexn 2) (E := zexn 2) S.2.2.2.1 [⟨0, 10, 13, 13⟩] ⟨0, 10, 17, 19⟩ [] htab (fun z hz => by
    rw [List.mem_singleton.mp hz]
    exact Or.inr ⟨by decide, zexn 1, S.2.2.2.2 _ zcl_1, hNc.1⟩) rfl (by decide) (S.2.2.2.2 _ zcl_2) (va_Nw.use rfl (hTv.1 _ (List.mem_of_getElem? (i := 4) rfl))) hce hcv hcl ?_
  refine lv_astore (lv' := [(4, .ref q), (0, .ref (A 0)), (1, .int (Int32.ofInt x0)), (2, .int (Int32.ofInt x1)), (3, .ref o)]) hx hb (by decide +kernel : decode cL_replan 17 = .ok (.astore 4, 2)) hl (by decide) rfl (fun ls hl => ?_)
  refine lv_iconst (v := Int32.ofInt 2) hx hb (by decide +kernel : decode cL_replan 19 = .ok (.iconst 2, 1)) (by decide) ?_
  exact zHend hX hP hS hok ⟨by decide, by decide⟩ (by decide +kernel : decode cL_replan 20 = .ok (.ireturn, 1))
theorem zlk_8 : Cond.methodLink RL 43 yX4_accept ∈ zWL := zwl 773 (by decide +kernel) rfl
theorem zli_8 : Cond.instanceMethod yX4_accept ∈ zWL := zwl 774 (by decide +kernel) rfl
theorem zls_8 : Cond.selects RX4 yX4_accept yX4_accept ∈ zWL := zwl 775 (by decide +kernel) rfl
theorem hr_8 (l : Launch) {σ σ1 : zSt} {f : Nat → Int64}  {v : Int} (hσ : zoks σ) (h : zE 8 0 [some (zR 0)] [] σ = zRI v σ1) : zHCon l yL_accept cL_accept 3 [(0, 8, 11, 19)] [] σ f 0 σ1 (vp_updL f 0 (zl v)) := by
  have hcon : zCon l 8 (zR 0 :: []) σ (some (zI v)) σ1 := zE_con l h zMk_8 (Nat.le_of_ble_eq_true rfl) (by
    intro a ha
    rw [List.mem_singleton.mp ha]
    trivial) hσ
  refine zHel_of (by decide +kernel) rfl (fun p e s mid args below meth c A D cI cQ cL o hX => ⟨Nat.le_of_ble_eq_true rfl, fun ls hl => ?_⟩)
  obtain ⟨S, hr, hlk, hN, hK, hTv, hNc, hTs, hP, hD, htab⟩ := id hX
  have hx := S.1
  have hb := S.2.1
  have hS : va_S (va_A (zLW A cI cQ cL o σ f) s.heap.size) s.heap s.heap [] := va_S.rf
  have hA : ∀ q : Nat, s.heap.size ≤ q → va_A (zLW A cI cQ cL o σ f) s.heap.size q := fun q h => Or.inr h
  have hl : lv_has ls 3 [(0, .ref (A 0)), (1, .ref o)] := hl
  refine lv_aload_n hx hb (by decide +kernel : decode cL_accept 0 = .ok (.aload_n 1, 1)) rfl (lv_at hl 1 rfl) ?_
  refine lv_iconst (v := 0) hx hb (by decide +kernel : decode cL_accept 1 = .ok (.iconst 0, 1)) (by decide) ?_
  refine lv_aload_n hx hb (by decide +kernel : decode cL_accept 2 = .ok (.aload_n 0, 1)) rfl (lv_at hl 0 rfl) ?_
  refine zlc_V (k := 0) (ci := 5) (n := 0) (as := []) (rest := [.int 0, .ref o]) S hcon (by decide) rfl rfl zlk_8 zli_8 zls_8 zMk_8 (by decide +kernel) rfl (by decide +kernel) (by decide +kernel) ⟨by decide, by decide⟩ hl.1 (Nat.le_of_ble_eq_true rfl) (by decide +kernel : decode cL_accept 3 = .ok (.invokevirtual 43, 3)) hK hN hP hD hS hA (fun H1 locs1 hP hD hS hok hvs _ => ?_)
  refine lv_i2l (v := zl v) hx hb (by decide +kernel : decode cL_accept 6 = .ok (.i2l, 1)) rfl ?_
  refine zlc_last hx hb hK hP hD hS (by decide +kernel : decode cL_accept 7 = .ok (.lastore, 1)) (fun H2 locs2 hP hD hS => ?_)
  refine lv_goto (tgt := 14) hx hb (by decide +kernel : decode cL_accept 8 = .ok (.goto 6, 3)) (by decide) ?_
  refine lv_iconst (v := Int32.ofInt 0) hx hb (by decide +kernel : decode cL_accept 14 = .ok (.iconst 0, 1)) (by decide) ?_
  exact zHend hX hP hS hok ⟨by decide, by decide⟩ (by decide +kernel : decode cL_accept 15 = .ok (.ireturn, 1))
theorem hx_8_0 (l : Launch) (hfl : l.stackTraces = false) {σ σ1 : zSt} {f : Nat → Int64}  (hσ : zoks σ) (h : zE 8 0 [some (zR 0)] [] σ = some (.inr (2, σ1))) : zHCon l yL_accept cL_accept 3 [(0, 8, 11, 19)] [] σ f 1 σ1 f := by
  have hcon : zConX l 8 (zR 0 :: []) σ 2 σ1 := zconX l hfl h zTh_8 zMk_8 (by decide +kernel) (Nat.le_of_ble_eq_true rfl) (by
    intro a ha
    rw [List.mem_singleton.mp ha]
    trivial) hσ
  refine zHel_of (by decide +kernel) rfl (fun p e s mid args below meth c A D cI cQ cL o hX => ⟨Nat.le_of_ble_eq_true rfl, fun ls hl => ?_⟩)
  obtain ⟨S, hr, hlk, hN, hK, hTv, hNc, hTs, hP, hD, htab⟩ := id hX
  have hx := S.1
  have hb := S.2.1
  have hS : va_S (va_A (zLW A cI cQ cL o σ f) s.heap.size) s.heap s.heap [] := va_S.rf
  have hA : ∀ q : Nat, s.heap.size ≤ q → va_A (zLW A cI cQ cL o σ f) s.heap.size q := fun q h => Or.inr h
  have hl : lv_has ls 3 [(0, .ref (A 0)), (1, .ref o)] := hl
  refine lv_aload_n hx hb (by decide +kernel : decode cL_accept 0 = .ok (.aload_n 1, 1)) rfl (lv_at hl 1 rfl) ?_
  refine lv_iconst (v := 0) hx hb (by decide +kernel : decode cL_accept 1 = .ok (.iconst 0, 1)) (by decide) ?_
  refine lv_aload_n hx hb (by decide +kernel : decode cL_accept 2 = .ok (.aload_n 0, 1)) rfl (lv_at hl 0 rfl) ?_
  refine zlc_X (k := 0) (ci := 5) (n := 0) (as := []) (rest := [.int 0, .ref o]) S hcon (by decide) rfl rfl zlk_8 zli_8 zls_8 zMk_8 (by decide +kernel) rfl (by decide +kernel) (by decide +kernel) ⟨by decide, by decide⟩ hl.1 (Nat.le_of_ble_eq_true rfl) (by decide +kernel : decode cL_accept 3 = .ok (.invokevirtual 43, 3)) hK hN hTv hTs hP hD hS hA (fun H1 locs1 q ce hP hD hS hok hce hcv hcl _ => ?_)
  refine vx_catch (own := RL) (name := zexn 2) (E := zexn 2) S.2.2.2.1 [] ⟨0, 8, 11, 19⟩ [] htab (fun z hz => by cases hz) rfl (by decide) (S.2.2.2.2 _ zcl_2) (va_Nw.use rfl (hTv.1 _ (List.mem_of_getElem? (i := 4) rfl))) hce hcv hcl ?_
  refine lv_astore_n (lv' := [(2, .ref q), (0, .ref (A 0)), (1, .ref o)]) hx hb (by decide +kernel : decode cL_accept 11 = .ok (.astore_n 2, 1)) rfl hl (by decide) rfl (fun ls hl => ?_)
  refine lv_iconst (v := Int32.ofInt 1) hx hb (by decide +kernel : decode cL_accept 12 = .ok (.iconst 1, 1)) (by decide) ?_
  exact zHend hX hP hS hok ⟨by decide, by decide⟩ (by decide +kernel : decode cL_accept 13 = .ok (.ireturn, 1))
theorem zlk_9 : Cond.methodLink RL 46 yX4_bargain ∈ zWL := zwl 784 (by decide +kernel) rfl
theorem zli_9 : Cond.instanceMethod yX4_bargain ∈ zWL := zwl 785 (by decide +kernel) rfl
theorem zls_9 : Cond.selects RX4 yX4_bargain yX4_bargain ∈ zWL := zwl 786 (by decide +kernel) rfl
theorem hr_9 (l : Launch) {σ σ1 : zSt} {f : Nat → Int64} {x0 x1 : Int} (q0 : zr x0) (q1 : zr x1) {v : Int} (hσ : zoks σ) (h : zE 9 0 [some (zR 0), some (zI x0), some (zI x1)] [] σ = zRI v σ1) : zHCon l yL_bargain cL_bargain 5 [(0, 10, 13, 25), (0, 10, 17, 13), (0, 10, 21, 19)] [zI x0, zI x1] σ f 0 σ1 (vp_updL f 0 (zl v)) := by
  have hcon : zCon l 9 (zR 0 :: [zI x0, zI x1]) σ (some (zI v)) σ1 := zE_con l h zMk_9 (Nat.le_of_ble_eq_true rfl) (by
    intro a ha
    simp only [List.mem_cons, List.not_mem_nil, or_false] at ha
    rcases ha with rfl | rfl | rfl <;> first | trivial | assumption) hσ
  refine zHel_of (by decide +kernel) rfl (fun p e s mid args below meth c A D cI cQ cL o hX => ⟨Nat.le_of_ble_eq_true rfl, fun ls hl => ?_⟩)
  obtain ⟨S, hr, hlk, hN, hK, hTv, hNc, hTs, hP, hD, htab⟩ := id hX
  have hx := S.1
  have hb := S.2.1
  have hS : va_S (va_A (zLW A cI cQ cL o σ f) s.heap.size) s.heap s.heap [] := va_S.rf
  have hA : ∀ q : Nat, s.heap.size ≤ q → va_A (zLW A cI cQ cL o σ f) s.heap.size q := fun q h => Or.inr h
  have hl : lv_has ls 5 [(0, .ref (A 0)), (1, .int (Int32.ofInt x0)), (2, .int (Int32.ofInt x1)), (3, .ref o)] := hl
  refine lv_aload_n hx hb (by decide +kernel : decode cL_bargain 0 = .ok (.aload_n 3, 1)) rfl (lv_at hl 3 rfl) ?_
  refine lv_iconst (v := 0) hx hb (by decide +kernel : decode cL_bargain 1 = .ok (.iconst 0, 1)) (by decide) ?_
  refine lv_aload_n hx hb (by decide +kernel : decode cL_bargain 2 = .ok (.aload_n 0, 1)) rfl (lv_at hl 0 rfl) ?_
  refine lv_iload_n hx hb (by decide +kernel : decode cL_bargain 3 = .ok (.iload_n 1, 1)) rfl (lv_at hl 1 rfl) ?_
  refine lv_iload_n hx hb (by decide +kernel : decode cL_bargain 4 = .ok (.iload_n 2, 1)) rfl (lv_at hl 2 rfl) ?_
  refine zlc_V (k := 0) (ci := 5) (n := 2) (as := [zI x0, zI x1]) (rest := [.int 0, .ref o]) S hcon (by decide) rfl rfl zlk_9 zli_9 zls_9 zMk_9 (by decide +kernel) rfl (by decide +kernel) (by decide +kernel) ⟨by decide, by decide⟩ hl.1 (Nat.le_of_ble_eq_true rfl) (by decide +kernel : decode cL_bargain 5 = .ok (.invokevirtual 46, 3)) hK hN hP hD hS hA (fun H1 locs1 hP hD hS hok hvs _ => ?_)
  refine lv_i2l (v := zl v) hx hb (by decide +kernel : decode cL_bargain 8 = .ok (.i2l, 1)) rfl ?_
  refine zlc_last hx hb hK hP hD hS (by decide +kernel : decode cL_bargain 9 = .ok (.lastore, 1)) (fun H2 locs2 hP hD hS => ?_)
  refine lv_goto (tgt := 25) hx hb (by decide +kernel : decode cL_bargain 10 = .ok (.goto 15, 3)) (by decide) ?_
  refine lv_iconst (v := Int32.ofInt 0) hx hb (by decide +kernel : decode cL_bargain 25 = .ok (.iconst 0, 1)) (by decide) ?_
  exact zHend hX hP hS hok ⟨by decide, by decide⟩ (by decide +kernel : decode cL_bargain 26 = .ok (.ireturn, 1))
theorem hx_9_0 (l : Launch) (hfl : l.stackTraces = false) {σ σ1 : zSt} {f : Nat → Int64} {x0 x1 : Int} (q0 : zr x0) (q1 : zr x1) (hσ : zoks σ) (h : zE 9 0 [some (zR 0), some (zI x0), some (zI x1)] [] σ = some (.inr (3, σ1))) : zHCon l yL_bargain cL_bargain 5 [(0, 10, 13, 25), (0, 10, 17, 13), (0, 10, 21, 19)] [zI x0, zI x1] σ f 1 σ1 f := by
  have hcon : zConX l 9 (zR 0 :: [zI x0, zI x1]) σ 3 σ1 := zconX l hfl h zTh_9 zMk_9 (by decide +kernel) (Nat.le_of_ble_eq_true rfl) (by
    intro a ha
    simp only [List.mem_cons, List.not_mem_nil, or_false] at ha
    rcases ha with rfl | rfl | rfl <;> first | trivial | assumption) hσ
  refine zHel_of (by decide +kernel) rfl (fun p e s mid args below meth c A D cI cQ cL o hX => ⟨Nat.le_of_ble_eq_true rfl, fun ls hl => ?_⟩)
  obtain ⟨S, hr, hlk, hN, hK, hTv, hNc, hTs, hP, hD, htab⟩ := id hX
  have hx := S.1
  have hb := S.2.1
  have hS : va_S (va_A (zLW A cI cQ cL o σ f) s.heap.size) s.heap s.heap [] := va_S.rf
  have hA : ∀ q : Nat, s.heap.size ≤ q → va_A (zLW A cI cQ cL o σ f) s.heap.size q := fun q h => Or.inr h
  have hl : lv_has ls 5 [(0, .ref (A 0)), (1, .int (Int32.ofInt x0)), (2, .int (Int32.ofInt x1)), (3, .ref o)] := hl
  refine lv_aload_n hx hb (by decide +kernel : decode cL_bargain 0 = .ok (.aload_n 3, 1)) rfl (lv_at hl 3 rfl) ?_
  refine lv_iconst (v := 0) hx hb (by decide +kernel : decode cL_bargain 1 = .ok (.iconst 0, 1)) (by decide) ?_
  refine lv_aload_n hx hb (by decide +kernel : decode cL_bargain 2 = .ok (.aload_n 0, 1)) rfl (lv_at hl 0 rfl) ?_
  refine lv_iload_n hx hb (by decide +kernel : decode cL_bargain 3 = .ok (.iload_n 1, 1)) rfl (lv_at hl 1 rfl) ?_
  refine lv_iload_n hx hb (by decide +kernel : decode cL_bargain 4 = .ok (.iload_n 2, 1)) rfl (lv_at hl 2 rfl) ?_
  refine zlc_X (k := 0) (ci := 5) (n := 2) (as := [zI x0, zI x1]) (rest := [.int 0, .ref o]) S hcon (by decide) rfl rfl zlk_9 zli_9 zls_9 zMk_9 (by decide +kernel) rfl (by decide +kernel) (by decide +kernel) ⟨by decide, by decide⟩ hl.1 (Nat.le_of_ble_eq_true rfl) (by decide +kernel : decode cL_bargain 5 = .ok (.invokevirtual 46, 3)) hK hN hTv hTs hP hD hS hA (fun H1 locs1 q ce hP hD hS hok hce hcv hcl _ => ?_)
  refine vx_catch (own := RL) (name := zexn 3) (E := zexn 3) S.2.2.2.1 [] ⟨0, 10, 13, 25⟩ [⟨0, 10, 17, 13⟩, ⟨0, 10, 21, 19⟩] htab (fun z hz => by cases hz) rfl (by decide) (S.2.2.2.2 _ zcl_3) (va_Nw.use rfl (hTv.1 _ (List.mem_of_getElem? (i := 5) rfl))) hce hcv hcl ?_
  refine lv_astore (lv' := [(4, .ref q), (0, .ref (A 0)), (1, .int (Int32.ofInt x0)), (2, .int (Int32.ofInt x1)), (3, .ref o)]) hx hb (by decide +kernel : decode cL_bargain 13 = .ok (.astore 4, 2)) hl (by decide) rfl (fun ls hl => ?_)
  refine lv_iconst (v := Int32.ofInt 1) hx hb (by decide +kernel : decode cL_bargain 15 = .ok (.iconst 1, 1)) (by decide) ?_
  exact zHend hX hP hS hok ⟨by decide, by decide⟩ (by decide +kernel : decode cL_bargain 16 = .ok (.ireturn, 1))
theorem hx_9_1 (l : Launch) (hfl : l.stackTraces = false) {σ σ1 : zSt} {f : Nat → Int64} {x0 x1 : Int} (q0 : zr x0) (q1 : zr x1) (hσ : zoks σ) (h : zE 9 0 [some (zR 0), some (zI x0), some (zI x1)] [] σ = some (.inr (1, σ1))) : zHCon l yL_bargain cL_bargain 5 [(0, 10, 13, 25), (0, 10, 17, 13), (0, 10, 21, 19)] [zI x0, zI x1] σ f 2 σ1 f := by
  have hcon : zConX l 9 (zR 0 :: [zI x0, zI x1]) σ 1 σ1 := zconX l hfl h zTh_9 zMk_9 (by decide +kernel) (Nat.le_of_ble_eq_true rfl) (by
    intro a ha
    simp only [List.mem_cons, List.not_mem_nil, or_false] at ha
    rcases ha with rfl | rfl | rfl <;> first | trivial | assumption) hσ
  refine zHel_of (by decide +kernel) rfl (fun p e s mid args below meth c A D cI cQ cL o hX => ⟨Nat.le_of_ble_eq_true rfl, fun ls hl => ?_⟩)
  obtain ⟨S, hr, hlk, hN, hK, hTv, hNc, hTs, hP, hD, htab⟩ := id hX
  have hx := S.1
  have hb := S.2.1
  have hS : va_S (va_A (zLW A cI cQ cL o σ f) s.heap.size) s.heap s.heap [] := va_S.rf
  have hA : ∀ q : Nat, s.heap.size ≤ q → va_A (zLW A cI cQ cL o σ f) s.heap.size q := fun q h => Or.inr h
  have hl : lv_has ls 5 [(0, .ref (A 0)), (1, .int (Int32.ofInt x0)), (2, .int (Int32.ofInt x1)), (3, .ref o)] := hl
  refine lv_aload_n hx hb (by decide +kernel : decode cL_bargain 0 = .ok (.aload_n 3, 1)) rfl (lv_at hl 3 rfl) ?_
  refine lv_iconst (v := 0) hx hb (by decide +kernel : decode cL_bargain 1 = .ok (.iconst 0, 1)) (by decide) ?_
  refine lv_aload_n hx hb (by decide +kernel : decode cL_bargain 2 = .ok (.aload_n 0, 1)) rfl (lv_at hl 0 rfl) ?_
  refine lv_iload_n hx hb (by decide +kernel : decode cL_bargain 3 = .ok (.iload_n 1, 1)) rfl (lv_at hl 1 rfl) ?_
  refine lv_iload_n hx hb (by decide +kernel : decode cL_bargain 4 = .ok (.iload_n 2, 1)) rfl (lv_at hl 2 rfl) ?_
  refine zlc_X (k := 0) (ci := 5) (n := 2) (as := [zI x0, zI x1]) (rest := [.int 0, .ref o]) S hcon (by decide) rfl rfl zlk_9 zli_9 zls_9 zMk_9 (by decide +kernel) rfl (by decide +kernel) (by decide +kernel) ⟨by decide, by decide⟩ hl.1 (Nat.le_of_ble_eq_true rfl) (by decide +kernel : decode cL_bargain 5 = .ok (.invokevirtual 46, 3)) hK hN hTv hTs hP hD hS hA (fun H1 locs1 q ce hP hD hS hok hce hcv hcl _ => ?_)
  refine vx_catch (own := RL) (name := zexn 1) (E := zexn 1) S.2.2.2.1 [⟨0, 10, 13, 25⟩] ⟨0, 10, 17, 13⟩ [⟨0, 10, 21, 19⟩] htab (fun z hz => by
    rw [List.mem_singleton.mp hz]
    exact Or.inr ⟨by decide, zexn 3, S.2.2.2.2 _ zcl_3, hNc.2.1⟩) rfl (by decide) (S.2.2.2.2 _ zcl_1) (va_Nw.use rfl (hTv.1 _ (List.mem_of_getElem? (i := 3) rfl))) hce hcv hcl ?_
  refine lv_astore (lv' := [(4, .ref q), (0, .ref (A 0)), (1, .int (Int32.ofInt x0)), (2, .int (Int32.ofInt x1)), (3, .ref o)]) hx hb (by decide +kernel : decode cL_bargain 17 = .ok (.astore 4, 2)) hl (by decide) rfl (fun ls hl => ?_)
  refine lv_iconst (v := Int32.ofInt 2) hx hb (by decide +kernel : decode cL_bargain 19 = .ok (.iconst 2, 1)) (by decide) ?_
  exact zHend hX hP hS hok ⟨by decide, by decide⟩ (by decide +kernel : decode cL_bargain 20 = .ok (.ireturn, 1))
theorem hx_9_2 (l : Launch) (hfl : l.stackTraces = false) {σ σ1 : zSt} {f : Nat → Int64} {x0 x1 : Int} (q0 : zr x0) (q1 : zr x1) (hσ : zoks σ) (h : zE 9 0 [some (zR 0), some (zI x0), some (zI x1)] [] σ = some (.inr (2, σ1))) : zHCon l yL_bargain cL_bargain 5 [(0, 10, 13, 25), (0, 10, 17, 13), (0, 10, 21, 19)] [zI x0, zI x1] σ f 3 σ1 f := by
  have hcon : zConX l 9 (zR 0 :: [zI x0, zI x1]) σ 2 σ1 := zconX l hfl h zTh_9 zMk_9 (by decide +kernel) (Nat.le_of_ble_eq_true rfl) (by
    intro a ha
    simp only [List.mem_cons, List.not_mem_nil, or_false] at ha
    rcases ha with rfl | rfl | rfl <;> first | trivial | assumption) hσ
  refine zHel_of (by decide +kernel) rfl (fun p e s mid args below meth c A D cI cQ cL o hX => ⟨Nat.le_of_ble_eq_true rfl, fun ls hl => ?_⟩)
  obtain ⟨S, hr, hlk, hN, hK, hTv, hNc, hTs, hP, hD, htab⟩ := id hX
  have hx := S.1
  have hb := S.2.1
  have hS : va_S (va_A (zLW A cI cQ cL o σ f) s.heap.size) s.heap s.heap [] := va_S.rf
  have hA : ∀ q : Nat, s.heap.size ≤ q → va_A (zLW A cI cQ cL o σ f) s.heap.size q := fun q h => Or.inr h
  have hl : lv_has ls 5 [(0, .ref (A 0)), (1, .int (Int32.ofInt x0)), (2, .int (Int32.ofInt x1)), (3, .ref o)] := hl
  refine lv_aload_n hx hb (by decide +kernel : decode cL_bargain 0 = .ok (.aload_n 3, 1)) rfl (lv_at hl 3 rfl) ?_
  refine lv_iconst (v := 0) hx hb (by decide +kernel : decode cL_bargain 1 = .ok (.iconst 0, 1)) (by decide) ?_
  refine lv_aload_n hx hb (by decide +kernel : decode cL_bargain 2 = .ok (.aload_n 0, 1)) rfl (lv_at hl 0 rfl) ?_
  refine lv_iload_n hx hb (by decide +kernel : decode cL_bargain 3 = .ok (.iload_n 1, 1)) rfl (lv_at hl 1 rfl) ?_
  refine lv_iload_n hx hb (by decide +kernel : decode cL_bargain 4 = .ok (.iload_n 2, 1)) rfl (lv_at hl 2 rfl) ?_
  refine zlc_X (k := 0) (ci := 5) (n := 2) (as := [zI x0, zI x1]) (rest := [.int 0, .ref o]) S hcon (by decide) rfl rfl zlk_9 zli_9 zls_9 zMk_9 (by decide +kernel) rfl (by decide +kernel) (by decide +kernel) ⟨by decide, by decide⟩ hl.1 (Nat.le_of_ble_eq_true rfl) (by decide +kernel : decode cL_bargain 5 = .ok (.invokevirtual 46, 3)) hK hN hTv hTs hP hD hS hA (fun H1 locs1 q ce hP hD hS hok hce hcv hcl _ => ?_)
  refine vx_catch (own := RL) (name := zexn 2) (E := zexn 2) S.2.2.2.1 [⟨0, 10, 13, 25⟩, ⟨0, 10, 17, 13⟩] ⟨0, 10, 21, 19⟩ [] htab (fun z hz => by
    rcases List.mem_cons.mp hz with e | hz
    · rw [e]
      exact Or.inr ⟨by decide, zexn 3, S.2.2.2.2 _ zcl_3, hNc.2.2⟩
    · rw [List.mem_singleton.mp hz]
      exact Or.inr ⟨by decide, zexn 1, S.2.2.2.2 _ zcl_1, hNc.1⟩) rfl (by decide) (S.2.2.2.2 _ zcl_2) (va_Nw.use rfl (hTv.1 _ (List.mem_of_getElem? (i := 4) rfl))) hce hcv hcl ?_
  refine lv_astore (lv' := [(4, .ref q), (0, .ref (A 0)), (1, .int (Int32.ofInt x0)), (2, .int (Int32.ofInt x1)), (3, .ref o)]) hx hb (by decide +kernel : decode cL_bargain 21 = .ok (.astore 4, 2)) hl (by decide) rfl (fun ls hl => ?_)
  refine lv_iconst (v := Int32.ofInt 3) hx hb (by decide +kernel : decode cL_bargain 23 = .ok (.iconst 3, 1)) (by decide) ?_
  exact zHend hX hP hS hok ⟨by decide, by decide⟩ (by decide +kernel : decode cL_bargain 24 = .ok (.ireturn, 1))
theorem zlk_10 : Cond.methodLink RL 49 yX4_overtime ∈ zWL := zwl 793 (by decide +kernel) rfl
theorem zli_10 : Cond.instanceMethod yX4_overtime ∈ zWL := zwl 794 (by decide +kernel) rfl
theorem zls_10 : Cond.selects RX4 yX4_overtime yX4_overtime ∈ zWL := zwl 795 (by decide +kernel) rfl
theorem hr_10 (l : Launch) {σ σ1 : zSt} {f : Nat → Int64} {x0 x1 : Int} (q0 : zr x0) (q1 : zr x1) {v : Int} (hσ : zoks σ) (h : zE 10 0 [some (zR 0), some (zI x0), some (zI x1), none] [] σ = zRI v σ1) : zHCon l yL_overtime cL_overtime 5 [(0, 10, 13, 25), (0, 10, 17, 19)] [zI x0, zI x1] σ f 0 σ1 (vp_updL f 0 (zl v)) := by
  have hcon : zCon l 10 (zR 0 :: [zI x0, zI x1]) σ (some (zI v)) σ1 := zE_con l h zMk_10 (Nat.le_of_ble_eq_true rfl) (by
    intro a ha
    simp only [List.mem_cons, List.not_mem_nil, or_false] at ha
    rcases ha with rfl | rfl | rfl <;> first | trivial | assumption) hσ
  refine zHel_of (by decide +kernel) rfl (fun p e s mid args below meth c A D cI cQ cL o hX => ⟨Nat.le_of_ble_eq_true rfl, fun ls hl => ?_⟩)
  obtain ⟨S, hr, hlk, hN, hK, hTv, hNc, hTs, hP, hD, htab⟩ := id hX
  have hx := S.1
  have hb := S.2.1
  have hS : va_S (va_A (zLW A cI cQ cL o σ f) s.heap.size) s.heap s.heap [] := va_S.rf
  have hA : ∀ q : Nat, s.heap.size ≤ q → va_A (zLW A cI cQ cL o σ f) s.heap.size q := fun q h => Or.inr h
  have hl : lv_has ls 5 [(0, .ref (A 0)), (1, .int (Int32.ofInt x0)), (2, .int (Int32.ofInt x1)), (3, .ref o)] := hl
  refine lv_aload_n hx hb (by decide +kernel : decode cL_overtime 0 = .ok (.aload_n 3, 1)) rfl (lv_at hl 3 rfl) ?_
  refine lv_iconst (v := 0) hx hb (by decide +kernel : decode cL_overtime 1 = .ok (.iconst 0, 1)) (by decide) ?_
  refine lv_aload_n hx hb (by decide +kernel : decode cL_overtime 2 = .ok (.aload_n 0, 1)) rfl (lv_at hl 0 rfl) ?_
  refine lv_iload_n hx hb (by decide +kernel : decode cL_overtime 3 = .ok (.iload_n 1, 1)) rfl (lv_at hl 1 rfl) ?_
  refine lv_iload_n hx hb (by decide +kernel : decode cL_overtime 4 = .ok (.iload_n 2, 1)) rfl (lv_at hl 2 rfl) ?_
  refine zlc_V (k := 0) (ci := 5) (n := 2) (as := [zI x0, zI x1]) (rest := [.int 0, .ref o]) S hcon (by decide) rfl rfl zlk_10 zli_10 zls_10 zMk_10 (by decide +kernel) rfl (by decide +kernel) (by decide +kernel) ⟨by decide, by decide⟩ hl.1 (Nat.le_of_ble_eq_true rfl) (by decide +kernel : decode cL_overtime 5 = .ok (.invokevirtual 49, 3)) hK hN hP hD hS hA (fun H1 locs1 hP hD hS hok hvs _ => ?_)
  refine lv_i2l (v := zl v) hx hb (by decide +kernel : decode cL_overtime 8 = .ok (.i2l, 1)) rfl ?_
  refine zlc_last hx hb hK hP hD hS (by decide +kernel : decode cL_overtime 9 = .ok (.lastore, 1)) (fun H2 locs2 hP hD hS => ?_)
  refine lv_goto (tgt := 21) hx hb (by decide +kernel : decode cL_overtime 10 = .ok (.goto 11, 3)) (by decide) ?_
  refine lv_iconst (v := Int32.ofInt 0) hx hb (by decide +kernel : decode cL_overtime 21 = .ok (.iconst 0, 1)) (by decide) ?_
  exact zHend hX hP hS hok ⟨by decide, by decide⟩ (by decide +kernel : decode cL_overtime 22 = .ok (.ireturn, 1))
theorem hx_10_0 (l : Launch) (hfl : l.stackTraces = false) {σ σ1 : zSt} {f : Nat → Int64} {x0 x1 : Int} (q0 : zr x0) (q1 : zr x1) (hσ : zoks σ) (h : zE 10 0 [some (zR 0), some (zI x0), some (zI x1), none] [] σ = some (.inr (3, σ1))) : zHCon l yL_overtime cL_overtime 5 [(0, 10, 13, 25), (0, 10, 17, 19)] [zI x0, zI x1] σ f 1 σ1 f := by
  have hcon : zConX l 10 (zR 0 :: [zI x0, zI x1]) σ 3 σ1 := zconX l hfl h zTh_10 zMk_10 (by decide +kernel) (Nat.le_of_ble_eq_true rfl) (by
    intro a ha
    simp only [List.mem_cons, List.not_mem_nil, or_false] at ha
    rcases ha with rfl | rfl | rfl <;> first | trivial | assumption) hσ
  refine zHel_of (by decide +kernel) rfl (fun p e s mid args below meth c A D cI cQ cL o hX => ⟨Nat.le_of_ble_eq_true rfl, fun ls hl => ?_⟩)
  obtain ⟨S, hr, hlk, hN, hK, hTv, hNc, hTs, hP, hD, htab⟩ := id hX
  have hx := S.1
  have hb := S.2.1
  have hS : va_S (va_A (zLW A cI cQ cL o σ f) s.heap.size) s.heap s.heap [] := va_S.rf
  have hA : ∀ q : Nat, s.heap.size ≤ q → va_A (zLW A cI cQ cL o σ f) s.heap.size q := fun q h => Or.inr h
  have hl : lv_has ls 5 [(0, .ref (A 0)), (1, .int (Int32.ofInt x0)), (2, .int (Int32.ofInt x1)), (3, .ref o)] := hl
  refine lv_aload_n hx hb (by decide +kernel : decode cL_overtime 0 = .ok (.aload_n 3, 1)) rfl (lv_at hl 3 rfl) ?_
  refine lv_iconst (v := 0) hx hb (by decide +kernel : decode cL_overtime 1 = .ok (.iconst 0, 1)) (by decide) ?_
  refine lv_aload_n hx hb (by decide +kernel : decode cL_overtime 2 = .ok (.aload_n 0, 1)) rfl (lv_at hl 0 rfl) ?_
  refine lv_iload_n hx hb (by decide +kernel : decode cL_overtime 3 = .ok (.iload_n 1, 1)) rfl (lv_at hl 1 rfl) ?_
  refine lv_iload_n hx hb (by decide +kernel : decode cL_overtime 4 = .ok (.iload_n 2, 1)) rfl (lv_at hl 2 rfl) ?_
  refine zlc_X (k := 0) (ci := 5) (n := 2) (as := [zI x0, zI x1]) (rest := [.int 0, .ref o]) S hcon (by decide) rfl rfl zlk_10 zli_10 zls_10 zMk_10 (by decide +kernel) rfl (by decide +kernel) (by decide +kernel) ⟨by decide, by decide⟩ hl.1 (Nat.le_of_ble_eq_true rfl) (by decide +kernel : decode cL_overtime 5 = .ok (.invokevirtual 49, 3)) hK hN hTv hTs hP hD hS hA (fun H1 locs1 q ce hP hD hS hok hce hcv hcl _ => ?_)
  refine vx_catch (own := RL) (name := zexn 3) (E := zexn 3) S.2.2.2.1 [] ⟨0, 10, 13, 25⟩ [⟨0, 10, 17, 19⟩] htab (fun z hz => by cases hz) rfl (by decide) (S.2.2.2.2 _ zcl_3) (va_Nw.use rfl (hTv.1 _ (List.mem_of_getElem? (i := 5) rfl))) hce hcv hcl ?_
  refine lv_astore (lv' := [(4, .ref q), (0, .ref (A 0)), (1, .int (Int32.ofInt x0)), (2, .int (Int32.ofInt x1)), (3, .ref o)]) hx hb (by decide +kernel : decode cL_overtime 13 = .ok (.astore 4, 2)) hl (by decide) rfl (fun ls hl => ?_)
  refine lv_iconst (v := Int32.ofInt 1) hx hb (by decide +kernel : decode cL_overtime 15 = .ok (.iconst 1, 1)) (by decide) ?_
  exact zHend hX hP hS hok ⟨by decide, by decide⟩ (by decide +kernel : decode cL_overtime 16 = .ok (.ireturn, 1))
theorem hx_10_1 (l : Launch) (hfl : l.stackTraces = false) {σ σ1 : zSt} {f : Nat → Int64} {x0 x1 : Int} (q0 : zr x0) (q1 : zr x1) (hσ : zoks σ) (h : zE 10 0 [some (zR 0), some (zI x0), some (zI x1), none] [] σ = some (.inr (2, σ1))) : zHCon l yL_overtime cL_overtime 5 [(0, 10, 13, 25), (0, 10, 17, 19)] [zI x0, zI x1] σ f 2 σ1 f := by
  have hcon : zConX l 10 (zR 0 :: [zI x0, zI x1]) σ 2 σ1 := zconX l hfl h zTh_10 zMk_10 (by decide +kernel) (Nat.le_of_ble_eq_true rfl) (by
    intro a ha
    simp only [List.mem_cons, List.not_mem_nil, or_false] at ha
    rcases ha with rfl | rfl | rfl <;> first | trivial | assumption) hσ
  refine zHel_of (by decide +kernel) rfl (fun p e s mid args below meth c A D cI cQ cL o hX => ⟨Nat.le_of_ble_eq_true rfl, fun ls hl => ?_⟩)
  obtain ⟨S, hr, hlk, hN, hK, hTv, hNc, hTs, hP, hD, htab⟩ := id hX
  have hx := S.1
  have hb := S.2.1
  have hS : va_S (va_A (zLW A cI cQ cL o σ f) s.heap.size) s.heap s.heap [] := va_S.rf
  have hA : ∀ q : Nat, s.heap.size ≤ q → va_A (zLW A cI cQ cL o σ f) s.heap.size q := fun q h => Or.inr h
  have hl : lv_has ls 5 [(0, .ref (A 0)), (1, .int (Int32.ofInt x0)), (2, .int (Int32.ofInt x1)), (3, .ref o)] := hl
  refine lv_aload_n hx hb (by decide +kernel : decode cL_overtime 0 = .ok (.aload_n 3, 1)) rfl (lv_at hl 3 rfl) ?_
  refine lv_iconst (v := 0) hx hb (by decide +kernel : decode cL_overtime 1 = .ok (.iconst 0, 1)) (by decide) ?_
  refine lv_aload_n hx hb (by decide +kernel : decode cL_overtime 2 = .ok (.aload_n 0, 1)) rfl (lv_at hl 0 rfl) ?_
  refine lv_iload_n hx hb (by decide +kernel : decode cL_overtime 3 = .ok (.iload_n 1, 1)) rfl (lv_at hl 1 rfl) ?_
  refine lv_iload_n hx hb (by decide +kernel : decode cL_overtime 4 = .ok (.iload_n 2, 1)) rfl (lv_at hl 2 rfl) ?_
  refine zlc_X (k := 0) (ci := 5) (n := 2) (as := [zI x0, zI x1]) (rest := [.int 0, .ref o]) S hcon (by decide) rfl rfl zlk_10 zli_10 zls_10 zMk_10 (by decide +kernel) rfl (by decide +kernel) (by decide +kernel) ⟨by decide, by decide⟩ hl.1 (Nat.le_of_ble_eq_true rfl) (by decide +kernel : decode cL_overtime 5 = .ok (.invokevirtual 49, 3)) hK hN hTv hTs hP hD hS hA (fun H1 locs1 q ce hP hD hS hok hce hcv hcl _ => ?_)
  refine vx_catch (own := RL) (name := zexn 2) (E := zexn 2) S.2.2.2.1 [⟨0, 10, 13, 25⟩] ⟨0, 10, 17, 19⟩ [] htab (fun z hz => by
    rw [List.mem_singleton.mp hz]
    exact Or.inr ⟨by decide, zexn 3, S.2.2.2.2 _ zcl_3, hNc.2.2⟩) rfl (by decide) (S.2.2.2.2 _ zcl_2) (va_Nw.use rfl (hTv.1 _ (List.mem_of_getElem? (i := 4) rfl))) hce hcv hcl ?_
  refine lv_astore (lv' := [(4, .ref q), (0, .ref (A 0)), (1, .int (Int32.ofInt x0)), (2, .int (Int32.ofInt x1)), (3, .ref o)]) hx hb (by decide +kernel : decode cL_overtime 17 = .ok (.astore 4, 2)) hl (by decide) rfl (fun ls hl => ?_)
  refine lv_iconst (v := Int32.ofInt 2) hx hb (by decide +kernel : decode cL_overtime 19 = .ok (.iconst 2, 1)) (by decide) ?_
  exact zHend hX hP hS hok ⟨by decide, by decide⟩ (by decide +kernel : decode cL_overtime 20 = .ok (.ireturn, 1))
theorem zlk_11 : Cond.methodLink RL 52 yX4_job ∈ zWL := zwl 801 (by decide +kernel) rfl
theorem zli_11 : Cond.instanceMethod yX4_job ∈ zWL := zwl 619 (by decide +kernel) rfl
theorem zls_11 : Cond.selects RX4 yX4_job yX4_job ∈ zWL := zwl 620 (by decide +kernel) rfl
theorem hr_11 (l : Launch) {σ σ1 : zSt} {f : Nat → Int64} {x0 x1 : Int} (q0 : zr x0) (q1 : zr x1) {v : Int} (hσ : zoks σ) (h : zE 11 0 [some (zR 0), some (zI x0), some (zI x1)] [] σ = zRI v σ1) : zHCon l yL_job cL_job 5 [(0, 10, 13, 25), (0, 10, 17, 13)] [zI x0, zI x1] σ f 0 σ1 (vp_updL f 0 (zl v)) := by
  have hcon : zCon l 11 (zR 0 :: [zI x0, zI x1]) σ (some (zI v)) σ1 := zE_con l h zMk_11 (Nat.le_of_ble_eq_true rfl) (by
    intro a ha
    simp only [List.mem_cons, List.not_mem_nil, or_false] at ha
    rcases ha with rfl | rfl | rfl <;> first | trivial | assumption) hσ
  refine zHel_of (by decide +kernel) rfl (fun p e s mid args below meth c A D cI cQ cL o hX => ⟨Nat.le_of_ble_eq_true rfl, fun ls hl => ?_⟩)
  obtain ⟨S, hr, hlk, hN, hK, hTv, hNc, hTs, hP, hD, htab⟩ := id hX
  have hx := S.1
  have hb := S.2.1
  have hS : va_S (va_A (zLW A cI cQ cL o σ f) s.heap.size) s.heap s.heap [] := va_S.rf
  have hA : ∀ q : Nat, s.heap.size ≤ q → va_A (zLW A cI cQ cL o σ f) s.heap.size q := fun q h => Or.inr h
  have hl : lv_has ls 5 [(0, .ref (A 0)), (1, .int (Int32.ofInt x0)), (2, .int (Int32.ofInt x1)), (3, .ref o)] := hl
  refine lv_aload_n hx hb (by decide +kernel : decode cL_job 0 = .ok (.aload_n 3, 1)) rfl (lv_at hl 3 rfl) ?_
  refine lv_iconst (v := 0) hx hb (by decide +kernel : decode cL_job 1 = .ok (.iconst 0, 1)) (by decide) ?_
  refine lv_aload_n hx hb (by decide +kernel : decode cL_job 2 = .ok (.aload_n 0, 1)) rfl (lv_at hl 0 rfl) ?_
  refine lv_iload_n hx hb (by decide +kernel : decode cL_job 3 = .ok (.iload_n 1, 1)) rfl (lv_at hl 1 rfl) ?_
  refine lv_iload_n hx hb (by decide +kernel : decode cL_job 4 = .ok (.iload_n 2, 1)) rfl (lv_at hl 2 rfl) ?_
  refine zlc_V (k := 0) (ci := 5) (n := 2) (as := [zI x0, zI x1]) (rest := [.int 0, .ref o]) S hcon (by decide) rfl rfl zlk_11 zli_11 zls_11 zMk_11 (by decide +kernel) rfl (by decide +kernel) (by decide +kernel) ⟨by decide, by decide⟩ hl.1 (Nat.le_of_ble_eq_true rfl) (by decide +kernel : decode cL_job 5 = .ok (.invokevirtual 52, 3)) hK hN hP hD hS hA (fun H1 locs1 hP hD hS hok hvs _ => ?_)
  refine lv_i2l (v := zl v) hx hb (by decide +kernel : decode cL_job 8 = .ok (.i2l, 1)) rfl ?_
  refine zlc_last hx hb hK hP hD hS (by decide +kernel : decode cL_job 9 = .ok (.lastore, 1)) (fun H2 locs2 hP hD hS => ?_)
  refine lv_goto (tgt := 21) hx hb (by decide +kernel : decode cL_job 10 = .ok (.goto 11, 3)) (by decide) ?_
  refine lv_iconst (v := Int32.ofInt 0) hx hb (by decide +kernel : decode cL_job 21 = .ok (.iconst 0, 1)) (by decide) ?_
  exact zHend hX hP hS hok ⟨by decide, by decide⟩ (by decide +kernel : decode cL_job 22 = .ok (.ireturn, 1))
theorem hx_11_0 (l : Launch) (hfl : l.stackTraces = false) {σ σ1 : zSt} {f : Nat → Int64} {x0 x1 : Int} (q0 : zr x0) (q1 : zr x1) (hσ : zoks σ) (h : zE 11 0 [some (zR 0), some (zI x0), some (zI x1)] [] σ = some (.inr (3, σ1))) : zHCon l yL_job cL_job 5 [(0, 10, 13, 25), (0, 10, 17, 13)] [zI x0, zI x1] σ f 1 σ1 f := by
  have hcon : zConX l 11 (zR 0 :: [zI x0, zI x1]) σ 3 σ1 := zconX l hfl h zTh_11 zMk_11 (by decide +kernel) (Nat.le_of_ble_eq_true rfl) (by
    intro a ha
    simp only [List.mem_cons, List.not_mem_nil, or_false] at ha
    rcases ha with rfl | rfl | rfl <;> first | trivial | assumption) hσ
  refine zHel_of (by decide +kernel) rfl (fun p e s mid args below meth c A D cI cQ cL o hX => ⟨Nat.le_of_ble_eq_true rfl, fun ls hl => ?_⟩)
  obtain ⟨S, hr, hlk, hN, hK, hTv, hNc, hTs, hP, hD, htab⟩ := id hX
  have hx := S.1
  have hb := S.2.1
  have hS : va_S (va_A (zLW A cI cQ cL o σ f) s.heap.size) s.heap s.heap [] := va_S.rf
  have hA : ∀ q : Nat, s.heap.size ≤ q → va_A (zLW A cI cQ cL o σ f) s.heap.size q := fun q h => Or.inr h
  have hl : lv_has ls 5 [(0, .ref (A 0)), (1, .int (Int32.ofInt x0)), (2, .int (Int32.ofInt x1)), (3, .ref o)] := hl
  refine lv_aload_n hx hb (by decide +kernel : decode cL_job 0 = .ok (.aload_n 3, 1)) rfl (lv_at hl 3 rfl) ?_
  refine lv_iconst (v := 0) hx hb (by decide +kernel : decode cL_job 1 = .ok (.iconst 0, 1)) (by decide) ?_
  refine lv_aload_n hx hb (by decide +kernel : decode cL_job 2 = .ok (.aload_n 0, 1)) rfl (lv_at hl 0 rfl) ?_
  refine lv_iload_n hx hb (by decide +kernel : decode cL_job 3 = .ok (.iload_n 1, 1)) rfl (lv_at hl 1 rfl) ?_
  refine lv_iload_n hx hb (by decide +kernel : decode cL_job 4 = .ok (.iload_n 2, 1)) rfl (lv_at hl 2 rfl) ?_
  refine zlc_X (k := 0) (ci := 5) (n := 2) (as := [zI x0, zI x1]) (rest := [.int 0, .ref o]) S hcon (by decide) rfl rfl zlk_11 zli_11 zls_11 zMk_11 (by decide +kernel) rfl (by decide +kernel) (by decide +kernel) ⟨by decide, by decide⟩ hl.1 (Nat.le_of_ble_eq_true rfl) (by decide +kernel : decode cL_job 5 = .ok (.invokevirtual 52, 3)) hK hN hTv hTs hP hD hS hA (fun H1 locs1 q ce hP hD hS hok hce hcv hcl _ => ?_)
  refine vx_catch (own := RL) (name := zexn 3) (E := zexn 3) S.2.2.2.1 [] ⟨0, 10, 13, 25⟩ [⟨0, 10, 17, 13⟩] htab (fun z hz => by cases hz) rfl (by decide) (S.2.2.2.2 _ zcl_3) (va_Nw.use rfl (hTv.1 _ (List.mem_of_getElem? (i := 5) rfl))) hce hcv hcl ?_
  refine lv_astore (lv' := [(4, .ref q), (0, .ref (A 0)), (1, .int (Int32.ofInt x0)), (2, .int (Int32.ofInt x1)), (3, .ref o)]) hx hb (by decide +kernel : decode cL_job 13 = .ok (.astore 4, 2)) hl (by decide) rfl (fun ls hl => ?_)
  refine lv_iconst (v := Int32.ofInt 1) hx hb (by decide +kernel : decode cL_job 15 = .ok (.iconst 1, 1)) (by decide) ?_
  exact zHend hX hP hS hok ⟨by decide, by decide⟩ (by decide +kernel : decode cL_job 16 = .ok (.ireturn, 1))
theorem hx_11_1 (l : Launch) (hfl : l.stackTraces = false) {σ σ1 : zSt} {f : Nat → Int64} {x0 x1 : Int} (q0 : zr x0) (q1 : zr x1) (hσ : zoks σ) (h : zE 11 0 [some (zR 0), some (zI x0), some (zI x1)] [] σ = some (.inr (1, σ1))) : zHCon l yL_job cL_job 5 [(0, 10, 13, 25), (0, 10, 17, 13)] [zI x0, zI x1] σ f 2 σ1 f := by
  have hcon : zConX l 11 (zR 0 :: [zI x0, zI x1]) σ 1 σ1 := zconX l hfl h zTh_11 zMk_11 (by decide +kernel) (Nat.le_of_ble_eq_true rfl) (by
    intro a ha
    simp only [List.mem_cons, List.not_mem_nil, or_false] at ha
    rcases ha with rfl | rfl | rfl <;> first | trivial | assumption) hσ
  refine zHel_of (by decide +kernel) rfl (fun p e s mid args below meth c A D cI cQ cL o hX => ⟨Nat.le_of_ble_eq_true rfl, fun ls hl => ?_⟩)
  obtain ⟨S, hr, hlk, hN, hK, hTv, hNc, hTs, hP, hD, htab⟩ := id hX
  have hx := S.1
  have hb := S.2.1
  have hS : va_S (va_A (zLW A cI cQ cL o σ f) s.heap.size) s.heap s.heap [] := va_S.rf
  have hA : ∀ q : Nat, s.heap.size ≤ q → va_A (zLW A cI cQ cL o σ f) s.heap.size q := fun q h => Or.inr h
  have hl : lv_has ls 5 [(0, .ref (A 0)), (1, .int (Int32.ofInt x0)), (2, .int (Int32.ofInt x1)), (3, .ref o)] := hl
  refine lv_aload_n hx hb (by decide +kernel : decode cL_job 0 = .ok (.aload_n 3, 1)) rfl (lv_at hl 3 rfl) ?_
  refine lv_iconst (v := 0) hx hb (by decide +kernel : decode cL_job 1 = .ok (.iconst 0, 1)) (by decide) ?_
  refine lv_aload_n hx hb (by decide +kernel : decode cL_job 2 = .ok (.aload_n 0, 1)) rfl (lv_at hl 0 rfl) ?_
  refine lv_iload_n hx hb (by decide +kernel : decode cL_job 3 = .ok (.iload_n 1, 1)) rfl (lv_at hl 1 rfl) ?_
  refine lv_iload_n hx hb (by decide +kernel : decode cL_job 4 = .ok (.iload_n 2, 1)) rfl (lv_at hl 2 rfl) ?_
  refine zlc_X (k := 0) (ci := 5) (n := 2) (as := [zI x0, zI x1]) (rest := [.int 0, .ref o]) S hcon (by decide) rfl rfl zlk_11 zli_11 zls_11 zMk_11 (by decide +kernel) rfl (by decide +kernel) (by decide +kernel) ⟨by decide, by decide⟩ hl.1 (Nat.le_of_ble_eq_true rfl) (by decide +kernel : decode cL_job 5 = .ok (.invokevirtual 52, 3)) hK hN hTv hTs hP hD hS hA (fun H1 locs1 q ce hP hD hS hok hce hcv hcl _ => ?_)
  refine vx_catch (own := RL) (name := zexn 1) (E := zexn 1) S.2.2.2.1 [⟨0, 10, 13, 25⟩] ⟨0, 10, 17, 13⟩ [] htab (fun z hz => by
    rw [List.mem_singleton.mp hz]
    exact Or.inr ⟨by decide, zexn 3, S.2.2.2.2 _ zcl_3, hNc.2.1⟩) rfl (by decide) (S.2.2.2.2 _ zcl_1) (va_Nw.use rfl (hTv.1 _ (List.mem_of_getElem? (i := 3) rfl))) hce hcv hcl ?_
  refine lv_astore (lv' := [(4, .ref q), (0, .ref (A 0)), (1, .int (Int32.ofInt x0)), (2, .int (Int32.ofInt x1)), (3, .ref o)]) hx hb (by decide +kernel : decode cL_job 17 = .ok (.astore 4, 2)) hl (by decide) rfl (fun ls hl => ?_)
  refine lv_iconst (v := Int32.ofInt 2) hx hb (by decide +kernel : decode cL_job 19 = .ok (.iconst 2, 1)) (by decide) ?_
  exact zHend hX hP hS hok ⟨by decide, by decide⟩ (by decide +kernel : decode cL_job 20 = .ok (.ireturn, 1))
theorem zlk_12 : Cond.methodLink RL 55 yX4_operation ∈ zWL := zwl 805 (by decide +kernel) rfl
theorem zli_12 : Cond.instanceMethod yX4_operation ∈ zWL := zwl 643 (by decide +kernel) rfl
theorem zls_12 : Cond.selects RX4 yX4_operation yX4_operation ∈ zWL := zwl 644 (by decide +kernel) rfl
theorem hr_12 (l : Launch) {σ σ1 : zSt} {f : Nat → Int64} {x0 x1 x2 : Int} (q0 : zr x0) (q1 : zr x1) (q2 : zr x2) {v : Int} (hσ : zoks σ) (h : zE 12 0 [some (zR 0), some (zI x0), some (zI x1), some (zI x2), none] [] σ = zRI v σ1) : zHCon l yL_operation cL_operation 6 [(0, 12, 15, 25), (0, 12, 19, 13)] [zI x0, zI x1, zI x2] σ f 0 σ1 (vp_updL f 0 (zl v)) := by
  have hcon : zCon l 12 (zR 0 :: [zI x0, zI x1, zI x2]) σ (some (zI v)) σ1 := zE_con l h zMk_12 (Nat.le_of_ble_eq_true rfl) (by
    intro a ha
    simp only [List.mem_cons, List.not_mem_nil, or_false] at ha
    rcases ha with rfl | rfl | rfl | rfl <;> first | trivial | assumption) hσ
  refine zHel_of (by decide +kernel) rfl (fun p e s mid args below meth c A D cI cQ cL o hX => ⟨Nat.le_of_ble_eq_true rfl, fun ls hl => ?_⟩)
  obtain ⟨S, hr, hlk, hN, hK, hTv, hNc, hTs, hP, hD, htab⟩ := id hX
  have hx := S.1
  have hb := S.2.1
  have hS : va_S (va_A (zLW A cI cQ cL o σ f) s.heap.size) s.heap s.heap [] := va_S.rf
  have hA : ∀ q : Nat, s.heap.size ≤ q → va_A (zLW A cI cQ cL o σ f) s.heap.size q := fun q h => Or.inr h
  have hl : lv_has ls 6 [(0, .ref (A 0)), (1, .int (Int32.ofInt x0)), (2, .int (Int32.ofInt x1)), (3, .int (Int32.ofInt x2)), (4, .ref o)] := hl
  refine lv_aload hx hb (by decide +kernel : decode cL_operation 0 = .ok (.aload 4, 2)) (lv_at hl 4 rfl) ?_
  refine lv_iconst (v := 0) hx hb (by decide +kernel : decode cL_operation 2 = .ok (.iconst 0, 1)) (by decide) ?_
  refine lv_aload_n hx hb (by decide +kernel : decode cL_operation 3 = .ok (.aload_n 0, 1)) rfl (lv_at hl 0 rfl) ?_
  refine lv_iload_n hx hb (by decide +kernel : decode cL_operation 4 = .ok (.iload_n 1, 1)) rfl (lv_at hl 1 rfl) ?_
  refine lv_iload_n hx hb (by decide +kernel : decode cL_operation 5 = .ok (.iload_n 2, 1)) rfl (lv_at hl 2 rfl) ?_
  refine lv_iload_n hx hb (by decide +kernel : decode cL_operation 6 = .ok (.iload_n 3, 1)) rfl (lv_at hl 3 rfl) ?_
  refine zlc_V (k := 0) (ci := 5) (n := 3) (as := [zI x0, zI x1, zI x2]) (rest := [.int 0, .ref o]) S hcon (by decide) rfl rfl zlk_12 zli_12 zls_12 zMk_12 (by decide +kernel) rfl (by decide +kernel) (by decide +kernel) ⟨by decide, by decide⟩ hl.1 (Nat.le_of_ble_eq_true rfl) (by decide +kernel : decode cL_operation 7 = .ok (.invokevirtual 55, 3)) hK hN hP hD hS hA (fun H1 locs1 hP hD hS hok hvs _ => ?_)
  refine lv_i2l (v := zl v) hx hb (by decide +kernel : decode cL_operation 10 = .ok (.i2l, 1)) rfl ?_
  refine zlc_last hx hb hK hP hD hS (by decide +kernel : decode cL_operation 11 = .ok (.lastore, 1)) (fun H2 locs2 hP hD hS => ?_)
  refine lv_goto (tgt := 23) hx hb (by decide +kernel : decode cL_operation 12 = .ok (.goto 11, 3)) (by decide) ?_
  refine lv_iconst (v := Int32.ofInt 0) hx hb (by decide +kernel : decode cL_operation 23 = .ok (.iconst 0, 1)) (by decide) ?_
  exact zHend hX hP hS hok ⟨by decide, by decide⟩ (by decide +kernel : decode cL_operation 24 = .ok (.ireturn, 1))
theorem hx_12_0 (l : Launch) (hfl : l.stackTraces = false) {σ σ1 : zSt} {f : Nat → Int64} {x0 x1 x2 : Int} (q0 : zr x0) (q1 : zr x1) (q2 : zr x2) (hσ : zoks σ) (h : zE 12 0 [some (zR 0), some (zI x0), some (zI x1), some (zI x2), none] [] σ = some (.inr (3, σ1))) : zHCon l yL_operation cL_operation 6 [(0, 12, 15, 25), (0, 12, 19, 13)] [zI x0, zI x1, zI x2] σ f 1 σ1 f := by
  have hcon : zConX l 12 (zR 0 :: [zI x0, zI x1, zI x2]) σ 3 σ1 := zconX l hfl h zTh_12 zMk_12 (by decide +kernel) (Nat.le_of_ble_eq_true rfl) (by
    intro a ha
    simp only [List.mem_cons, List.not_mem_nil, or_false] at ha
    rcases ha with rfl | rfl | rfl | rfl <;> first | trivial | assumption) hσ
  refine zHel_of (by decide +kernel) rfl (fun p e s mid args below meth c A D cI cQ cL o hX => ⟨Nat.le_of_ble_eq_true rfl, fun ls hl => ?_⟩)
  obtain ⟨S, hr, hlk, hN, hK, hTv, hNc, hTs, hP, hD, htab⟩ := id hX
  have hx := S.1
  have hb := S.2.1
  have hS : va_S (va_A (zLW A cI cQ cL o σ f) s.heap.size) s.heap s.heap [] := va_S.rf
  have hA : ∀ q : Nat, s.heap.size ≤ q → va_A (zLW A cI cQ cL o σ f) s.heap.size q := fun q h => Or.inr h
  have hl : lv_has ls 6 [(0, .ref (A 0)), (1, .int (Int32.ofInt x0)), (2, .int (Int32.ofInt x1)), (3, .int (Int32.ofInt x2)), (4, .ref o)] := hl
  refine lv_aload hx hb (by decide +kernel : decode cL_operation 0 = .ok (.aload 4, 2)) (lv_at hl 4 rfl) ?_
  refine lv_iconst (v := 0) hx hb (by decide +kernel : decode cL_operation 2 = .ok (.iconst 0, 1)) (by decide) ?_
  refine lv_aload_n hx hb (by decide +kernel : decode cL_operation 3 = .ok (.aload_n 0, 1)) rfl (lv_at hl 0 rfl) ?_
  refine lv_iload_n hx hb (by decide +kernel : decode cL_operation 4 = .ok (.iload_n 1, 1)) rfl (lv_at hl 1 rfl) ?_
  refine lv_iload_n hx hb (by decide +kernel : decode cL_operation 5 = .ok (.iload_n 2, 1)) rfl (lv_at hl 2 rfl) ?_
  refine lv_iload_n hx hb (by decide +kernel : decode cL_operation 6 = .ok (.iload_n 3, 1)) rfl (lv_at hl 3 rfl) ?_
  refine zlc_X (k := 0) (ci := 5) (n := 3) (as := [zI x0, zI x1, zI x2]) (rest := [.int 0, .ref o]) S hcon (by decide) rfl rfl zlk_12 zli_12 zls_12 zMk_12 (by decide +kernel) rfl (by decide +kernel) (by decide +kernel) ⟨by decide, by decide⟩ hl.1 (Nat.le_of_ble_eq_true rfl) (by decide +kernel : decode cL_operation 7 = .ok (.invokevirtual 55, 3)) hK hN hTv hTs hP hD hS hA (fun H1 locs1 q ce hP hD hS hok hce hcv hcl _ => ?_)
  refine vx_catch (own := RL) (name := zexn 3) (E := zexn 3) S.2.2.2.1 [] ⟨0, 12, 15, 25⟩ [⟨0, 12, 19, 13⟩] htab (fun z hz => by cases hz) rfl (by decide) (S.2.2.2.2 _ zcl_3) (va_Nw.use rfl (hTv.1 _ (List.mem_of_getElem? (i := 5) rfl))) hce hcv hcl ?_
  refine lv_astore (lv' := [(5, .ref q), (0, .ref (A 0)), (1, .int (Int32.ofInt x0)), (2, .int (Int32.ofInt x1)), (3, .int (Int32.ofInt x2)), (4, .ref o)]) hx hb (by decide +kernel : decode cL_operation 15 = .ok (.astore 5, 2)) hl (by decide) rfl (fun ls hl => ?_)
  refine lv_iconst (v := Int32.ofInt 1) hx hb (by decide +kernel : decode cL_operation 17 = .ok (.iconst 1, 1)) (by decide) ?_
  exact zHend hX hP hS hok ⟨by decide, by decide⟩ (by decide +kernel : decode cL_operation 18 = .ok (.ireturn, 1))
theorem hx_12_1 (l : Launch) (hfl : l.stackTraces = false) {σ σ1 : zSt} {f : Nat → Int64} {x0 x1 x2 : Int} (q0 : zr x0) (q1 : zr x1) (q2 : zr x2) (hσ : zoks σ) (h : zE 12 0 [some (zR 0), some (zI x0), some (zI x1), some (zI x2), none] [] σ = some (.inr (1, σ1))) : zHCon l yL_operation cL_operation 6 [(0, 12, 15, 25), (0, 12, 19, 13)] [zI x0, zI x1, zI x2] σ f 2 σ1 f := by
  have hcon : zConX l 12 (zR 0 :: [zI x0, zI x1, zI x2]) σ 1 σ1 := zconX l hfl h zTh_12 zMk_12 (by decide +kernel) (Nat.le_of_ble_eq_true rfl) (by
    intro a ha
    simp only [List.mem_cons, List.not_mem_nil, or_false] at ha
    rcases ha with rfl | rfl | rfl | rfl <;> first | trivial | assumption) hσ
  refine zHel_of (by decide +kernel) rfl (fun p e s mid args below meth c A D cI cQ cL o hX => ⟨Nat.le_of_ble_eq_true rfl, fun ls hl => ?_⟩)
  obtain ⟨S, hr, hlk, hN, hK, hTv, hNc, hTs, hP, hD, htab⟩ := id hX
  have hx := S.1
  have hb := S.2.1
  have hS : va_S (va_A (zLW A cI cQ cL o σ f) s.heap.size) s.heap s.heap [] := va_S.rf
  have hA : ∀ q : Nat, s.heap.size ≤ q → va_A (zLW A cI cQ cL o σ f) s.heap.size q := fun q h => Or.inr h
  have hl : lv_has ls 6 [(0, .ref (A 0)), (1, .int (Int32.ofInt x0)), (2, .int (Int32.ofInt x1)), (3, .int (Int32.ofInt x2)), (4, .ref o)] := hl
  refine lv_aload hx hb (by decide +kernel : decode cL_operation 0 = .ok (.aload 4, 2)) (lv_at hl 4 rfl) ?_
  refine lv_iconst (v := 0) hx hb (by decide +kernel : decode cL_operation 2 = .ok (.iconst 0, 1)) (by decide) ?_
  refine lv_aload_n hx hb (by decide +kernel : decode cL_operation 3 = .ok (.aload_n 0, 1)) rfl (lv_at hl 0 rfl) ?_
  refine lv_iload_n hx hb (by decide +kernel : decode cL_operation 4 = .ok (.iload_n 1, 1)) rfl (lv_at hl 1 rfl) ?_
  refine lv_iload_n hx hb (by decide +kernel : decode cL_operation 5 = .ok (.iload_n 2, 1)) rfl (lv_at hl 2 rfl) ?_
  refine lv_iload_n hx hb (by decide +kernel : decode cL_operation 6 = .ok (.iload_n 3, 1)) rfl (lv_at hl 3 rfl) ?_
  refine zlc_X (k := 0) (ci := 5) (n := 3) (as := [zI x0, zI x1, zI x2]) (rest := [.int 0, .ref o]) S hcon (by decide) rfl rfl zlk_12 zli_12 zls_12 zMk_12 (by decide +kernel) rfl (by decide +kernel) (by decide +kernel) ⟨by decide, by decide⟩ hl.1 (Nat.le_of_ble_eq_true rfl) (by decide +kernel : decode cL_operation 7 = .ok (.invokevirtual 55, 3)) hK hN hTv hTs hP hD hS hA (fun H1 locs1 q ce hP hD hS hok hce hcv hcl _ => ?_)
  refine vx_catch (own := RL) (name := zexn 1) (E := zexn 1) S.2.2.2.1 [⟨0, 12, 15, 25⟩] ⟨0, 12, 19, 13⟩ [] htab (fun z hz => by
    rw [List.mem_singleton.mp hz]
    exact Or.inr ⟨by decide, zexn 3, S.2.2.2.2 _ zcl_3, hNc.2.1⟩) rfl (by decide) (S.2.2.2.2 _ zcl_1) (va_Nw.use rfl (hTv.1 _ (List.mem_of_getElem? (i := 3) rfl))) hce hcv hcl ?_
  refine lv_astore (lv' := [(5, .ref q), (0, .ref (A 0)), (1, .int (Int32.ofInt x0)), (2, .int (Int32.ofInt x1)), (3, .int (Int32.ofInt x2)), (4, .ref o)]) hx hb (by decide +kernel : decode cL_operation 19 = .ok (.astore 5, 2)) hl (by decide) rfl (fun ls hl => ?_)
  refine lv_iconst (v := Int32.ofInt 2) hx hb (by decide +kernel : decode cL_operation 21 = .ok (.iconst 2, 1)) (by decide) ?_
  exact zHend hX hP hS hok ⟨by decide, by decide⟩ (by decide +kernel : decode cL_operation 22 = .ok (.ireturn, 1))
theorem zlk_13 : Cond.methodLink RL 58 yX4_breakdown ∈ zWL := zwl 809 (by decide +kernel) rfl
theorem zli_13 : Cond.instanceMethod yX4_breakdown ∈ zWL := zwl 656 (by decide +kernel) rfl
theorem zls_13 : Cond.selects RX4 yX4_breakdown yX4_breakdown ∈ zWL := zwl 657 (by decide +kernel) rfl
theorem hr_13 (l : Launch) {σ σ1 : zSt} {f : Nat → Int64} {x0 x1 : Int} (q0 : zr x0) (q1 : zr x1) {v : Int} (hσ : zoks σ) (h : zE 13 0 [some (zR 0), some (zI x0), some (zI x1)] [] σ = zRI v σ1) : zHCon l yL_breakdown cL_breakdown 5 [(0, 10, 13, 25), (0, 10, 17, 13)] [zI x0, zI x1] σ f 0 σ1 (vp_updL f 0 (zl v)) := by
  have hcon : zCon l 13 (zR 0 :: [zI x0, zI x1]) σ (some (zI v)) σ1 := zE_con l h zMk_13 (Nat.le_of_ble_eq_true rfl) (by
    intro a ha
    simp only [List.mem_cons, List.not_mem_nil, or_false] at ha
    rcases ha with rfl | rfl | rfl <;> first | trivial | assumption) hσ
  refine zHel_of (by decide +kernel) rfl (fun p e s mid args below meth c A D cI cQ cL o hX => ⟨Nat.le_of_ble_eq_true rfl, fun ls hl => ?_⟩)
  obtain ⟨S, hr, hlk, hN, hK, hTv, hNc, hTs, hP, hD, htab⟩ := id hX
  have hx := S.1
  have hb := S.2.1
  have hS : va_S (va_A (zLW A cI cQ cL o σ f) s.heap.size) s.heap s.heap [] := va_S.rf
  have hA : ∀ q : Nat, s.heap.size ≤ q → va_A (zLW A cI cQ cL o σ f) s.heap.size q := fun q h => Or.inr h
  have hl : lv_has ls 5 [(0, .ref (A 0)), (1, .int (Int32.ofInt x0)), (2, .int (Int32.ofInt x1)), (3, .ref o)] := hl
  refine lv_aload_n hx hb (by decide +kernel : decode cL_breakdown 0 = .ok (.aload_n 3, 1)) rfl (lv_at hl 3 rfl) ?_
  refine lv_iconst (v := 0) hx hb (by decide +kernel : decode cL_breakdown 1 = .ok (.iconst 0, 1)) (by decide) ?_
  refine lv_aload_n hx hb (by decide +kernel : decode cL_breakdown 2 = .ok (.aload_n 0, 1)) rfl (lv_at hl 0 rfl) ?_
  refine lv_iload_n hx hb (by decide +kernel : decode cL_breakdown 3 = .ok (.iload_n 1, 1)) rfl (lv_at hl 1 rfl) ?_
  refine lv_iload_n hx hb (by decide +kernel : decode cL_breakdown 4 = .ok (.iload_n 2, 1)) rfl (lv_at hl 2 rfl) ?_
  refine zlc_V (k := 0) (ci := 5) (n := 2) (as := [zI x0, zI x1]) (rest := [.int 0, .ref o]) S hcon (by decide) rfl rfl zlk_13 zli_13 zls_13 zMk_13 (by decide +kernel) rfl (by decide +kernel) (by decide +kernel) ⟨by decide, by decide⟩ hl.1 (Nat.le_of_ble_eq_true rfl) (by decide +kernel : decode cL_breakdown 5 = .ok (.invokevirtual 58, 3)) hK hN hP hD hS hA (fun H1 locs1 hP hD hS hok hvs _ => ?_)
  refine lv_i2l (v := zl v) hx hb (by decide +kernel : decode cL_breakdown 8 = .ok (.i2l, 1)) rfl ?_
  refine zlc_last hx hb hK hP hD hS (by decide +kernel : decode cL_breakdown 9 = .ok (.lastore, 1)) (fun H2 locs2 hP hD hS => ?_)
  refine lv_goto (tgt := 21) hx hb (by decide +kernel : decode cL_breakdown 10 = .ok (.goto 11, 3)) (by decide) ?_
  refine lv_iconst (v := Int32.ofInt 0) hx hb (by decide +kernel : decode cL_breakdown 21 = .ok (.iconst 0, 1)) (by decide) ?_
  exact zHend hX hP hS hok ⟨by decide, by decide⟩ (by decide +kernel : decode cL_breakdown 22 = .ok (.ireturn, 1))
theorem hx_13_0 (l : Launch) (hfl : l.stackTraces = false) {σ σ1 : zSt} {f : Nat → Int64} {x0 x1 : Int} (q0 : zr x0) (q1 : zr x1) (hσ : zoks σ) (h : zE 13 0 [some (zR 0), some (zI x0), some (zI x1)] [] σ = some (.inr (3, σ1))) : zHCon l yL_breakdown cL_breakdown 5 [(0, 10, 13, 25), (0, 10, 17, 13)] [zI x0, zI x1] σ f 1 σ1 f := by
  have hcon : zConX l 13 (zR 0 :: [zI x0, zI x1]) σ 3 σ1 := zconX l hfl h zTh_13 zMk_13 (by decide +kernel) (Nat.le_of_ble_eq_true rfl) (by
    intro a ha
    simp only [List.mem_cons, List.not_mem_nil, or_false] at ha
    rcases ha with rfl | rfl | rfl <;> first | trivial | assumption) hσ
  refine zHel_of (by decide +kernel) rfl (fun p e s mid args below meth c A D cI cQ cL o hX => ⟨Nat.le_of_ble_eq_true rfl, fun ls hl => ?_⟩)
  obtain ⟨S, hr, hlk, hN, hK, hTv, hNc, hTs, hP, hD, htab⟩ := id hX
  have hx := S.1
  have hb := S.2.1
  have hS : va_S (va_A (zLW A cI cQ cL o σ f) s.heap.size) s.heap s.heap [] := va_S.rf
  have hA : ∀ q : Nat, s.heap.size ≤ q → va_A (zLW A cI cQ cL o σ f) s.heap.size q := fun q h => Or.inr h
  have hl : lv_has ls 5 [(0, .ref (A 0)), (1, .int (Int32.ofInt x0)), (2, .int (Int32.ofInt x1)), (3, .ref o)] := hl
  refine lv_aload_n hx hb (by decide +kernel : decode cL_breakdown 0 = .ok (.aload_n 3, 1)) rfl (lv_at hl 3 rfl) ?_
  refine lv_iconst (v := 0) hx hb (by decide +kernel : decode cL_breakdown 1 = .ok (.iconst 0, 1)) (by decide) ?_
  refine lv_aload_n hx hb (by decide +kernel : decode cL_breakdown 2 = .ok (.aload_n 0, 1)) rfl (lv_at hl 0 rfl) ?_
  refine lv_iload_n hx hb (by decide +kernel : decode cL_breakdown 3 = .ok (.iload_n 1, 1)) rfl (lv_at hl 1 rfl) ?_
  refine lv_iload_n hx hb (by decide +kernel : decode cL_breakdown 4 = .ok (.iload_n 2, 1)) rfl (lv_at hl 2 rfl) ?_
  refine zlc_X (k := 0) (ci := 5) (n := 2) (as := [zI x0, zI x1]) (rest := [.int 0, .ref o]) S hcon (by decide) rfl rfl zlk_13 zli_13 zls_13 zMk_13 (by decide +kernel) rfl (by decide +kernel) (by decide +kernel) ⟨by decide, by decide⟩ hl.1 (Nat.le_of_ble_eq_true rfl) (by decide +kernel : decode cL_breakdown 5 = .ok (.invokevirtual 58, 3)) hK hN hTv hTs hP hD hS hA (fun H1 locs1 q ce hP hD hS hok hce hcv hcl _ => ?_)
  refine vx_catch (own := RL) (name := zexn 3) (E := zexn 3) S.2.2.2.1 [] ⟨0, 10, 13, 25⟩ [⟨0, 10, 17, 13⟩] htab (fun z hz => by cases hz) rfl (by decide) (S.2.2.2.2 _ zcl_3) (va_Nw.use rfl (hTv.1 _ (List.mem_of_getElem? (i := 5) rfl))) hce hcv hcl ?_
  refine lv_astore (lv' := [(4, .ref q), (0, .ref (A 0)), (1, .int (Int32.ofInt x0)), (2, .int (Int32.ofInt x1)), (3, .ref o)]) hx hb (by decide +kernel : decode cL_breakdown 13 = .ok (.astore 4, 2)) hl (by decide) rfl (fun ls hl => ?_)
  refine lv_iconst (v := Int32.ofInt 1) hx hb (by decide +kernel : decode cL_breakdown 15 = .ok (.iconst 1, 1)) (by decide) ?_
  exact zHend hX hP hS hok ⟨by decide, by decide⟩ (by decide +kernel : decode cL_breakdown 16 = .ok (.ireturn, 1))
theorem hx_13_1 (l : Launch) (hfl : l.stackTraces = false) {σ σ1 : zSt} {f : Nat → Int64} {x0 x1 : Int} (q0 : zr x0) (q1 : zr x1) (hσ : zoks σ) (h : zE 13 0 [some (zR 0), some (zI x0), some (zI x1)] [] σ = some (.inr (1, σ1))) : zHCon l yL_breakdown cL_breakdown 5 [(0, 10, 13, 25), (0, 10, 17, 13)] [zI x0, zI x1] σ f 2 σ1 f := by
  have hcon : zConX l 13 (zR 0 :: [zI x0, zI x1]) σ 1 σ1 := zconX l hfl h zTh_13 zMk_13 (by decide +kernel) (Nat.le_of_ble_eq_true rfl) (by
    intro a ha
    simp only [List.mem_cons, List.not_mem_nil, or_false] at ha
    rcases ha with rfl | rfl | rfl <;> first | trivial | assumption) hσ
  refine zHel_of (by decide +kernel) rfl (fun p e s mid args below meth c A D cI cQ cL o hX => ⟨Nat.le_of_ble_eq_true rfl, fun ls hl => ?_⟩)
  obtain ⟨S, hr, hlk, hN, hK, hTv, hNc, hTs, hP, hD, htab⟩ := id hX
  have hx := S.1
  have hb := S.2.1
  have hS : va_S (va_A (zLW A cI cQ cL o σ f) s.heap.size) s.heap s.heap [] := va_S.rf
  have hA : ∀ q : Nat, s.heap.size ≤ q → va_A (zLW A cI cQ cL o σ f) s.heap.size q := fun q h => Or.inr h
  have hl : lv_has ls 5 [(0, .ref (A 0)), (1, .int (Int32.ofInt x0)), (2, .int (Int32.ofInt x1)), (3, .ref o)] := hl
  refine lv_aload_n hx hb (by decide +kernel : decode cL_breakdown 0 = .ok (.aload_n 3, 1)) rfl (lv_at hl 3 rfl) ?_
  refine lv_iconst (v := 0) hx hb (by decide +kernel : decode cL_breakdown 1 = .ok (.iconst 0, 1)) (by decide) ?_
  refine lv_aload_n hx hb (by decide +kernel : decode cL_breakdown 2 = .ok (.aload_n 0, 1)) rfl (lv_at hl 0 rfl) ?_
  refine lv_iload_n hx hb (by decide +kernel : decode cL_breakdown 3 = .ok (.iload_n 1, 1)) rfl (lv_at hl 1 rfl) ?_
  refine lv_iload_n hx hb (by decide +kernel : decode cL_breakdown 4 = .ok (.iload_n 2, 1)) rfl (lv_at hl 2 rfl) ?_
  refine zlc_X (k := 0) (ci := 5) (n := 2) (as := [zI x0, zI x1]) (rest := [.int 0, .ref o]) S hcon (by decide) rfl rfl zlk_13 zli_13 zls_13 zMk_13 (by decide +kernel) rfl (by decide +kernel) (by decide +kernel) ⟨by decide, by decide⟩ hl.1 (Nat.le_of_ble_eq_true rfl) (by decide +kernel : decode cL_breakdown 5 = .ok (.invokevirtual 58, 3)) hK hN hTv hTs hP hD hS hA (fun H1 locs1 q ce hP hD hS hok hce hcv hcl _ => ?_)
  refine vx_catch (own := RL) (name := zexn 1) (E := zexn 1) S.2.2.2.1 [⟨0, 10, 13, 25⟩] ⟨0, 10, 17, 13⟩ [] htab (fun z hz => by
    rw [List.mem_singleton.mp hz]
    exact Or.inr ⟨by decide, zexn 3, S.2.2.2.2 _ zcl_3, hNc.2.1⟩) rfl (by decide) (S.2.2.2.2 _ zcl_1) (va_Nw.use rfl (hTv.1 _ (List.mem_of_getElem? (i := 3) rfl))) hce hcv hcl ?_
  refine lv_astore (lv' := [(4, .ref q), (0, .ref (A 0)), (1, .int (Int32.ofInt x0)), (2, .int (Int32.ofInt x1)), (3, .ref o)]) hx hb (by decide +kernel : decode cL_breakdown 17 = .ok (.astore 4, 2)) hl (by decide) rfl (fun ls hl => ?_)
  refine lv_iconst (v := Int32.ofInt 2) hx hb (by decide +kernel : decode cL_breakdown 19 = .ok (.iconst 2, 1)) (by decide) ?_
  exact zHend hX hP hS hok ⟨by decide, by decide⟩ (by decide +kernel : decode cL_breakdown 20 = .ok (.ireturn, 1))
theorem zlk_14 : Cond.methodLink RL 61 yX4_value ∈ zWL := zwl 813 (by decide +kernel) rfl
theorem zli_14 : Cond.instanceMethod yX4_value ∈ zWL := zwl 526 (by decide +kernel) rfl
theorem zls_14 : Cond.selects RX4 yX4_value yX4_value ∈ zWL := zwl 527 (by decide +kernel) rfl
theorem hr_14 (l : Launch) {σ σ1 : zSt} {f : Nat → Int64} {x0 : Int} (q0 : zr x0) {v : Int} (hσ : zoks σ) (h : zE 14 0 [some (zR 0), some (zI x0)] [] σ = zRI v σ1) : zHCon l yL_value cL_value 4 [(0, 9, 12, 13)] [zI x0] σ f 0 σ1 (vp_updL f 0 (zl v)) := by
  have hcon : zCon l 14 (zR 0 :: [zI x0]) σ (some (zI v)) σ1 := zE_con l h zMk_14 (Nat.le_of_ble_eq_true rfl) (by
    intro a ha
    simp only [List.mem_cons, List.not_mem_nil, or_false] at ha
    rcases ha with rfl | rfl <;> first | trivial | assumption) hσ
  refine zHel_of (by decide +kernel) rfl (fun p e s mid args below meth c A D cI cQ cL o hX => ⟨Nat.le_of_ble_eq_true rfl, fun ls hl => ?_⟩)
  obtain ⟨S, hr, hlk, hN, hK, hTv, hNc, hTs, hP, hD, htab⟩ := id hX
  have hx := S.1
  have hb := S.2.1
  have hS : va_S (va_A (zLW A cI cQ cL o σ f) s.heap.size) s.heap s.heap [] := va_S.rf
  have hA : ∀ q : Nat, s.heap.size ≤ q → va_A (zLW A cI cQ cL o σ f) s.heap.size q := fun q h => Or.inr h
  have hl : lv_has ls 4 [(0, .ref (A 0)), (1, .int (Int32.ofInt x0)), (2, .ref o)] := hl
  refine lv_aload_n hx hb (by decide +kernel : decode cL_value 0 = .ok (.aload_n 2, 1)) rfl (lv_at hl 2 rfl) ?_
  refine lv_iconst (v := 0) hx hb (by decide +kernel : decode cL_value 1 = .ok (.iconst 0, 1)) (by decide) ?_
  refine lv_aload_n hx hb (by decide +kernel : decode cL_value 2 = .ok (.aload_n 0, 1)) rfl (lv_at hl 0 rfl) ?_
  refine lv_iload_n hx hb (by decide +kernel : decode cL_value 3 = .ok (.iload_n 1, 1)) rfl (lv_at hl 1 rfl) ?_
  refine zlc_V (k := 0) (ci := 5) (n := 1) (as := [zI x0]) (rest := [.int 0, .ref o]) S hcon (by decide) rfl rfl zlk_14 zli_14 zls_14 zMk_14 (by decide +kernel) rfl (by decide +kernel) (by decide +kernel) ⟨by decide, by decide⟩ hl.1 (Nat.le_of_ble_eq_true rfl) (by decide +kernel : decode cL_value 4 = .ok (.invokevirtual 61, 3)) hK hN hP hD hS hA (fun H1 locs1 hP hD hS hok hvs _ => ?_)
  refine lv_i2l (v := zl v) hx hb (by decide +kernel : decode cL_value 7 = .ok (.i2l, 1)) rfl ?_
  refine zlc_last hx hb hK hP hD hS (by decide +kernel : decode cL_value 8 = .ok (.lastore, 1)) (fun H2 locs2 hP hD hS => ?_)
  refine lv_goto (tgt := 15) hx hb (by decide +kernel : decode cL_value 9 = .ok (.goto 6, 3)) (by decide) ?_
  refine lv_iconst (v := Int32.ofInt 0) hx hb (by decide +kernel : decode cL_value 15 = .ok (.iconst 0, 1)) (by decide) ?_
  exact zHend hX hP hS hok ⟨by decide, by decide⟩ (by decide +kernel : decode cL_value 16 = .ok (.ireturn, 1))
theorem hx_14_0 (l : Launch) (hfl : l.stackTraces = false) {σ σ1 : zSt} {f : Nat → Int64} {x0 : Int} (q0 : zr x0) (hσ : zoks σ) (h : zE 14 0 [some (zR 0), some (zI x0)] [] σ = some (.inr (1, σ1))) : zHCon l yL_value cL_value 4 [(0, 9, 12, 13)] [zI x0] σ f 1 σ1 f := by
  have hcon : zConX l 14 (zR 0 :: [zI x0]) σ 1 σ1 := zconX l hfl h zTh_14 zMk_14 (by decide +kernel) (Nat.le_of_ble_eq_true rfl) (by
    intro a ha
    simp only [List.mem_cons, List.not_mem_nil, or_false] at ha
    rcases ha with rfl | rfl <;> first | trivial | assumption) hσ
  refine zHel_of (by decide +kernel) rfl (fun p e s mid args below meth c A D cI cQ cL o hX => ⟨Nat.le_of_ble_eq_true rfl, fun ls hl => ?_⟩)
  obtain ⟨S, hr, hlk, hN, hK, hTv, hNc, hTs, hP, hD, htab⟩ := id hX
  have hx := S.1
  have hb := S.2.1
  have hS : va_S (va_A (zLW A cI cQ cL o σ f) s.heap.size) s.heap s.heap [] := va_S.rf
  have hA : ∀ q : Nat, s.heap.size ≤ q → va_A (zLW A cI cQ cL o σ f) s.heap.size q := fun q h => Or.inr h
  have hl : lv_has ls 4 [(0, .ref (A 0)), (1, .int (Int32.ofInt x0)), (2, .ref o)] := hl
  refine lv_aload_n hx hb (by decide +kernel : decode cL_value 0 = .ok (.aload_n 2, 1)) rfl (lv_at hl 2 rfl) ?_
  refine lv_iconst (v := 0) hx hb (by decide +kernel : decode cL_value 1 = .ok (.iconst 0, 1)) (by decide) ?_
  refine lv_aload_n hx hb (by decide +kernel : decode cL_value 2 = .ok (.aload_n 0, 1)) rfl (lv_at hl 0 rfl) ?_
  refine lv_iload_n hx hb (by decide +kernel : decode cL_value 3 = .ok (.iload_n 1, 1)) rfl (lv_at hl 1 rfl) ?_
  refine zlc_X (k := 0) (ci := 5) (n := 1) (as := [zI x0]) (rest := [.int 0, .ref o]) S hcon (by decide) rfl rfl zlk_14 zli_14 zls_14 zMk_14 (by decide +kernel) rfl (by decide +kernel) (by decide +kernel) ⟨by decide, by decide⟩ hl.1 (Nat.le_of_ble_eq_true rfl) (by decide +kernel : decode cL_value 4 = .ok (.invokevirtual 61, 3)) hK hN hTv hTs hP hD hS hA (fun H1 locs1 q ce hP hD hS hok hce hcv hcl _ => ?_)
  refine vx_catch (own := RL) (name := zexn 1) (E := zexn 1) S.2.2.2.1 [] ⟨0, 9, 12, 13⟩ [] htab (fun z hz => by cases hz) rfl (by decide) (S.2.2.2.2 _ zcl_1) (va_Nw.use rfl (hTv.1 _ (List.mem_of_getElem? (i := 3) rfl))) hce hcv hcl ?_
  refine lv_astore_n (lv' := [(3, .ref q), (0, .ref (A 0)), (1, .int (Int32.ofInt x0)), (2, .ref o)]) hx hb (by decide +kernel : decode cL_value 12 = .ok (.astore_n 3, 1)) rfl hl (by decide) rfl (fun ls hl => ?_)
  refine lv_iconst (v := Int32.ofInt 1) hx hb (by decide +kernel : decode cL_value 13 = .ok (.iconst 1, 1)) (by decide) ?_
  exact zHend hX hP hS hok ⟨by decide, by decide⟩ (by decide +kernel : decode cL_value 14 = .ok (.ireturn, 1))
theorem zlk_16 : Cond.methodLink RL 64 yX4_onMachine ∈ zWL := zwl 817 (by decide +kernel) rfl
theorem zli_16 : Cond.instanceMethod yX4_onMachine ∈ zWL := zwl 818 (by decide +kernel) rfl
theorem zls_16 : Cond.selects RX4 yX4_onMachine yX4_onMachine ∈ zWL := zwl 819 (by decide +kernel) rfl
theorem hr_16 (l : Launch) {σ σ1 : zSt} {f : Nat → Int64} {x0 x1 : Int} (q0 : zr x0) (q1 : zr x1) {v : Int} (hσ : zoks σ) (h : zE 16 0 [some (zR 0), some (zI x0), some (zI x1)] [] σ = zRI v σ1) : zHCon l yL_onMachine cL_onMachine 5 [(0, 10, 13, 25)] [zI x0, zI x1] σ f 0 σ1 (vp_updL f 0 (zl v)) := by
  have hcon : zCon l 16 (zR 0 :: [zI x0, zI x1]) σ (some (zI v)) σ1 := zE_con l h zMk_16 (Nat.le_of_ble_eq_true rfl) (by
    intro a ha
    simp only [List.mem_cons, List.not_mem_nil, or_false] at ha
    rcases ha with rfl | rfl | rfl <;> first | trivial | assumption) hσ
  refine zHel_of (by decide +kernel) rfl (fun p e s mid args below meth c A D cI cQ cL o hX => ⟨Nat.le_of_ble_eq_true rfl, fun ls hl => ?_⟩)
  obtain ⟨S, hr, hlk, hN, hK, hTv, hNc, hTs, hP, hD, htab⟩ := id hX
  have hx := S.1
  have hb := S.2.1
  have hS : va_S (va_A (zLW A cI cQ cL o σ f) s.heap.size) s.heap s.heap [] := va_S.rf
  have hA : ∀ q : Nat, s.heap.size ≤ q → va_A (zLW A cI cQ cL o σ f) s.heap.size q := fun q h => Or.inr h
  have hl : lv_has ls 5 [(0, .ref (A 0)), (1, .int (Int32.ofInt x0)), (2, .int (Int32.ofInt x1)), (3, .ref o)] := hl
  refine lv_aload_n hx hb (by decide +kernel : decode cL_onMachine 0 = .ok (.aload_n 3, 1)) rfl (lv_at hl 3 rfl) ?_
  refine lv_iconst (v := 0) hx hb (by decide +kernel : decode cL_onMachine 1 = .ok (.iconst 0, 1)) (by decide) ?_
  refine lv_aload_n hx hb (by decide +kernel : decode cL_onMachine 2 = .ok (.aload_n 0, 1)) rfl (lv_at hl 0 rfl) ?_
  refine lv_iload_n hx hb (by decide +kernel : decode cL_onMachine 3 = .ok (.iload_n 1, 1)) rfl (lv_at hl 1 rfl) ?_
  refine lv_iload_n hx hb (by decide +kernel : decode cL_onMachine 4 = .ok (.iload_n 2, 1)) rfl (lv_at hl 2 rfl) ?_
  refine zlc_V (k := 0) (ci := 5) (n := 2) (as := [zI x0, zI x1]) (rest := [.int 0, .ref o]) S hcon (by decide) rfl rfl zlk_16 zli_16 zls_16 zMk_16 (by decide +kernel) rfl (by decide +kernel) (by decide +kernel) ⟨by decide, by decide⟩ hl.1 (Nat.le_of_ble_eq_true rfl) (by decide +kernel : decode cL_onMachine 5 = .ok (.invokevirtual 64, 3)) hK hN hP hD hS hA (fun H1 locs1 hP hD hS hok hvs _ => ?_)
  refine lv_i2l (v := zl v) hx hb (by decide +kernel : decode cL_onMachine 8 = .ok (.i2l, 1)) rfl ?_
  refine zlc_last hx hb hK hP hD hS (by decide +kernel : decode cL_onMachine 9 = .ok (.lastore, 1)) (fun H2 locs2 hP hD hS => ?_)
  refine lv_goto (tgt := 17) hx hb (by decide +kernel : decode cL_onMachine 10 = .ok (.goto 7, 3)) (by decide) ?_
  refine lv_iconst (v := Int32.ofInt 0) hx hb (by decide +kernel : decode cL_onMachine 17 = .ok (.iconst 0, 1)) (by decide) ?_
  exact zHend hX hP hS hok ⟨by decide, by decide⟩ (by decide +kernel : decode cL_onMachine 18 = .ok (.ireturn, 1))
theorem hx_16_0 (l : Launch) (hfl : l.stackTraces = false) {σ σ1 : zSt} {f : Nat → Int64} {x0 x1 : Int} (q0 : zr x0) (q1 : zr x1) (hσ : zoks σ) (h : zE 16 0 [some (zR 0), some (zI x0), some (zI x1)] [] σ = some (.inr (3, σ1))) : zHCon l yL_onMachine cL_onMachine 5 [(0, 10, 13, 25)] [zI x0, zI x1] σ f 1 σ1 f := by
  have hcon : zConX l 16 (zR 0 :: [zI x0, zI x1]) σ 3 σ1 := zconX l hfl h zTh_16 zMk_16 (by decide +kernel) (Nat.le_of_ble_eq_true rfl) (by
    intro a ha
    simp only [List.mem_cons, List.not_mem_nil, or_false] at ha
    rcases ha with rfl | rfl | rfl <;> first | trivial | assumption) hσ
  refine zHel_of (by decide +kernel) rfl (fun p e s mid args below meth c A D cI cQ cL o hX => ⟨Nat.le_of_ble_eq_true rfl, fun ls hl => ?_⟩)
  obtain ⟨S, hr, hlk, hN, hK, hTv, hNc, hTs, hP, hD, htab⟩ := id hX
  have hx := S.1
  have hb := S.2.1
  have hS : va_S (va_A (zLW A cI cQ cL o σ f) s.heap.size) s.heap s.heap [] := va_S.rf
  have hA : ∀ q : Nat, s.heap.size ≤ q → va_A (zLW A cI cQ cL o σ f) s.heap.size q := fun q h => Or.inr h
  have hl : lv_has ls 5 [(0, .ref (A 0)), (1, .int (Int32.ofInt x0)), (2, .int (Int32.ofInt x1)), (3, .ref o)] := hl
  refine lv_aload_n hx hb (by decide +kernel : decode cL_onMachine 0 = .ok (.aload_n 3, 1)) rfl (lv_at hl 3 rfl) ?_
  refine lv_iconst (v := 0) hx hb (by decide +kernel : decode cL_onMachine 1 = .ok (.iconst 0, 1)) (by decide) ?_
  refine lv_aload_n hx hb (by decide +kernel : decode cL_onMachine 2 = .ok (.aload_n 0, 1)) rfl (lv_at hl 0 rfl) ?_
  refine lv_iload_n hx hb (by decide +kernel : decode cL_onMachine 3 = .ok (.iload_n 1, 1)) rfl (lv_at hl 1 rfl) ?_
  refine lv_iload_n hx hb (by decide +kernel : decode cL_onMachine 4 = .ok (.iload_n 2, 1)) rfl (lv_at hl 2 rfl) ?_
  refine zlc_X (k := 0) (ci := 5) (n := 2) (as := [zI x0, zI x1]) (rest := [.int 0, .ref o]) S hcon (by decide) rfl rfl zlk_16 zli_16 zls_16 zMk_16 (by decide +kernel) rfl (by decide +kernel) (by decide +kernel) ⟨by decide, by decide⟩ hl.1 (Nat.le_of_ble_eq_true rfl) (by decide +kernel : decode cL_onMachine 5 = .ok (.invokevirtual 64, 3)) hK hN hTv hTs hP hD hS hA (fun H1 locs1 q ce hP hD hS hok hce hcv hcl _ => ?_)
  refine vx_catch (own := RL) (name := zexn 3) (E := zexn 3) S.2.2.2.1 [] ⟨0, 10, 13, 25⟩ [] htab (fun z hz => by cases hz) rfl (by decide) (S.2.2.2.2 _ zcl_3) (va_Nw.use rfl (hTv.1 _ (List.mem_of_getElem? (i := 5) rfl))) hce hcv hcl ?_
  refine lv_astore (lv' := [(4, .ref q), (0, .ref (A 0)), (1, .int (Int32.ofInt x0)), (2, .int (Int32.ofInt x1)), (3, .ref o)]) hx hb (by decide +kernel : decode cL_onMachine 13 = .ok (.astore 4, 2)) hl (by decide) rfl (fun ls hl => ?_)
  refine lv_iconst (v := Int32.ofInt 1) hx hb (by decide +kernel : decode cL_onMachine 15 = .ok (.iconst 1, 1)) (by decide) ?_
  exact zHend hX hP hS hok ⟨by decide, by decide⟩ (by decide +kernel : decode cL_onMachine 16 = .ok (.ireturn, 1))
theorem zlk_17 : Cond.methodLink RL 67 yX4_latenessBy ∈ zWL := zwl 833 (by decide +kernel) rfl
theorem zli_17 : Cond.instanceMethod yX4_latenessBy ∈ zWL := zwl 834 (by decide +kernel) rfl
theorem zls_17 : Cond.selects RX4 yX4_latenessBy yX4_latenessBy ∈ zWL := zwl 835 (by decide +kernel) rfl
theorem hr_17 (l : Launch) {σ σ1 : zSt} {f : Nat → Int64} {x0 : Int} (q0 : zr x0) {v : Int} (hσ : zoks σ) (h : zE 17 0 [some (zR 0), some (zI x0)] [] σ = zRI v σ1) : zHCon l yL_latenessBy cL_latenessBy 4 [(0, 9, 12, 13)] [zI x0] σ f 0 σ1 (vp_updL f 0 (zl v)) := by
  have hcon : zCon l 17 (zR 0 :: [zI x0]) σ (some (zI v)) σ1 := zE_con l h zMk_17 (Nat.le_of_ble_eq_true rfl) (by
    intro a ha
    simp only [List.mem_cons, List.not_mem_nil, or_false] at ha
    rcases ha with rfl | rfl <;> first | trivial | assumption) hσ
  refine zHel_of (by decide +kernel) rfl (fun p e s mid args below meth c A D cI cQ cL o hX => ⟨Nat.le_of_ble_eq_true rfl, fun ls hl => ?_⟩)
  obtain ⟨S, hr, hlk, hN, hK, hTv, hNc, hTs, hP, hD, htab⟩ := id hX
  have hx := S.1
  have hb := S.2.1
  have hS : va_S (va_A (zLW A cI cQ cL o σ f) s.heap.size) s.heap s.heap [] := va_S.rf
  have hA : ∀ q : Nat, s.heap.size ≤ q → va_A (zLW A cI cQ cL o σ f) s.heap.size q := fun q h => Or.inr h
  have hl : lv_has ls 4 [(0, .ref (A 0)), (1, .int (Int32.ofInt x0)), (2, .ref o)] := hl
  refine lv_aload_n hx hb (by decide +kernel : decode cL_latenessBy 0 = .ok (.aload_n 2, 1)) rfl (lv_at hl 2 rfl) ?_
  refine lv_iconst (v := 0) hx hb (by decide +kernel : decode cL_latenessBy 1 = .ok (.iconst 0, 1)) (by decide) ?_
  refine lv_aload_n hx hb (by decide +kernel : decode cL_latenessBy 2 = .ok (.aload_n 0, 1)) rfl (lv_at hl 0 rfl) ?_
  refine lv_iload_n hx hb (by decide +kernel : decode cL_latenessBy 3 = .ok (.iload_n 1, 1)) rfl (lv_at hl 1 rfl) ?_
  refine zlc_V (k := 0) (ci := 5) (n := 1) (as := [zI x0]) (rest := [.int 0, .ref o]) S hcon (by decide) rfl rfl zlk_17 zli_17 zls_17 zMk_17 (by decide +kernel) rfl (by decide +kernel) (by decide +kernel) ⟨by decide, by decide⟩ hl.1 (Nat.le_of_ble_eq_true rfl) (by decide +kernel : decode cL_latenessBy 4 = .ok (.invokevirtual 67, 3)) hK hN hP hD hS hA (fun H1 locs1 hP hD hS hok hvs _ => ?_)
  refine lv_i2l (v := zl v) hx hb (by decide +kernel : decode cL_latenessBy 7 = .ok (.i2l, 1)) rfl ?_
  refine zlc_last hx hb hK hP hD hS (by decide +kernel : decode cL_latenessBy 8 = .ok (.lastore, 1)) (fun H2 locs2 hP hD hS => ?_)
  refine lv_goto (tgt := 15) hx hb (by decide +kernel : decode cL_latenessBy 9 = .ok (.goto 6, 3)) (by decide) ?_
  refine lv_iconst (v := Int32.ofInt 0) hx hb (by decide +kernel : decode cL_latenessBy 15 = .ok (.iconst 0, 1)) (by decide) ?_
  exact zHend hX hP hS hok ⟨by decide, by decide⟩ (by decide +kernel : decode cL_latenessBy 16 = .ok (.ireturn, 1))
theorem hx_17_0 (l : Launch) (hfl : l.stackTraces = false) {σ σ1 : zSt} {f : Nat → Int64} {x0 : Int} (q0 : zr x0) (hσ : zoks σ) (h : zE 17 0 [some (zR 0), some (zI x0)] [] σ = some (.inr (1, σ1))) : zHCon l yL_latenessBy cL_latenessBy 4 [(0, 9, 12, 13)] [zI x0] σ f 1 σ1 f := by
  have hcon : zConX l 17 (zR 0 :: [zI x0]) σ 1 σ1 := zconX l hfl h zTh_17 zMk_17 (by decide +kernel) (Nat.le_of_ble_eq_true rfl) (by
    intro a ha
    simp only [List.mem_cons, List.not_mem_nil, or_false] at ha
    rcases ha with rfl | rfl <;> first | trivial | assumption) hσ
  refine zHel_of (by decide +kernel) rfl (fun p e s mid args below meth c A D cI cQ cL o hX => ⟨Nat.le_of_ble_eq_true rfl, fun ls hl => ?_⟩)
  obtain ⟨S, hr, hlk, hN, hK, hTv, hNc, hTs, hP, hD, htab⟩ := id hX
  have hx := S.1
  have hb := S.2.1
  have hS : va_S (va_A (zLW A cI cQ cL o σ f) s.heap.size) s.heap s.heap [] := va_S.rf
  have hA : ∀ q : Nat, s.heap.size ≤ q → va_A (zLW A cI cQ cL o σ f) s.heap.size q := fun q h => Or.inr h
  have hl : lv_has ls 4 [(0, .ref (A 0)), (1, .int (Int32.ofInt x0)), (2, .ref o)] := hl
  refine lv_aload_n hx hb (by decide +kernel : decode cL_latenessBy 0 = .ok (.aload_n 2, 1)) rfl (lv_at hl 2 rfl) ?_
  refine lv_iconst (v := 0) hx hb (by decide +kernel : decode cL_latenessBy 1 = .ok (.iconst 0, 1)) (by decide) ?_
  refine lv_aload_n hx hb (by decide +kernel : decode cL_latenessBy 2 = .ok (.aload_n 0, 1)) rfl (lv_at hl 0 rfl) ?_
  refine lv_iload_n hx hb (by decide +kernel : decode cL_latenessBy 3 = .ok (.iload_n 1, 1)) rfl (lv_at hl 1 rfl) ?_
  refine zlc_X (k := 0) (ci := 5) (n := 1) (as := [zI x0]) (rest := [.int 0, .ref o]) S hcon (by decide) rfl rfl zlk_17 zli_17 zls_17 zMk_17 (by decide +kernel) rfl (by decide +kernel) (by decide +kernel) ⟨by decide, by decide⟩ hl.1 (Nat.le_of_ble_eq_true rfl) (by decide +kernel : decode cL_latenessBy 4 = .ok (.invokevirtual 67, 3)) hK hN hTv hTs hP hD hS hA (fun H1 locs1 q ce hP hD hS hok hce hcv hcl _ => ?_)
  refine vx_catch (own := RL) (name := zexn 1) (E := zexn 1) S.2.2.2.1 [] ⟨0, 9, 12, 13⟩ [] htab (fun z hz => by cases hz) rfl (by decide) (S.2.2.2.2 _ zcl_1) (va_Nw.use rfl (hTv.1 _ (List.mem_of_getElem? (i := 3) rfl))) hce hcv hcl ?_
  refine lv_astore_n (lv' := [(3, .ref q), (0, .ref (A 0)), (1, .int (Int32.ofInt x0)), (2, .ref o)]) hx hb (by decide +kernel : decode cL_latenessBy 12 = .ok (.astore_n 3, 1)) rfl hl (by decide) rfl (fun ls hl => ?_)
  refine lv_iconst (v := Int32.ofInt 1) hx hb (by decide +kernel : decode cL_latenessBy 13 = .ok (.iconst 1, 1)) (by decide) ?_
  exact zHend hX hP hS hok ⟨by decide, by decide⟩ (by decide +kernel : decode cL_latenessBy 14 = .ok (.ireturn, 1))
theorem zlk_20 : Cond.methodLink RL 70 yX4_bestReplan ∈ zWL := zwl 840 (by decide +kernel) rfl
theorem zli_20 : Cond.instanceMethod yX4_bestReplan ∈ zWL := zwl 841 (by decide +kernel) rfl
theorem zls_20 : Cond.selects RX4 yX4_bestReplan yX4_bestReplan ∈ zWL := zwl 842 (by decide +kernel) rfl
theorem hr_20 (l : Launch) {σ σ1 : zSt} {f : Nat → Int64} {x0 : Int} (q0 : zr x0) {v : Int} (hσ : zoks σ) (h : zE 20 0 [some (zR 0), some (zI x0), none, none, none, none] [] σ = zRI v σ1) : zHCon l yL_bestReplan cL_bestReplan 4 [(0, 9, 12, 13)] [zI x0] σ f 0 σ1 (vp_updL f 0 (zl v)) := by
  have hcon : zCon l 20 (zR 0 :: [zI x0]) σ (some (zI v)) σ1 := zE_con l h zMk_20 (Nat.le_of_ble_eq_true rfl) (by
    intro a ha
    simp only [List.mem_cons, List.not_mem_nil, or_false] at ha
    rcases ha with rfl | rfl <;> first | trivial | assumption) hσ
  refine zHel_of (by decide +kernel) rfl (fun p e s mid args below meth c A D cI cQ cL o hX => ⟨Nat.le_of_ble_eq_true rfl, fun ls hl => ?_⟩)
  obtain ⟨S, hr, hlk, hN, hK, hTv, hNc, hTs, hP, hD, htab⟩ := id hX
  have hx := S.1
  have hb := S.2.1
  have hS : va_S (va_A (zLW A cI cQ cL o σ f) s.heap.size) s.heap s.heap [] := va_S.rf
  have hA : ∀ q : Nat, s.heap.size ≤ q → va_A (zLW A cI cQ cL o σ f) s.heap.size q := fun q h => Or.inr h
  have hl : lv_has ls 4 [(0, .ref (A 0)), (1, .int (Int32.ofInt x0)), (2, .ref o)] := hl
  refine lv_aload_n hx hb (by decide +kernel : decode cL_bestReplan 0 = .ok (.aload_n 2, 1)) rfl (lv_at hl 2 rfl) ?_
  refine lv_iconst (v := 0) hx hb (by decide +kernel : decode cL_bestReplan 1 = .ok (.iconst 0, 1)) (by decide) ?_
  refine lv_aload_n hx hb (by decide +kernel : decode cL_bestReplan 2 = .ok (.aload_n 0, 1)) rfl (lv_at hl 0 rfl) ?_
  refine lv_iload_n hx hb (by decide +kernel : decode cL_bestReplan 3 = .ok (.iload_n 1, 1)) rfl (lv_at hl 1 rfl) ?_
  refine zlc_V (k := 0) (ci := 5) (n := 1) (as := [zI x0]) (rest := [.int 0, .ref o]) S hcon (by decide) rfl rfl zlk_20 zli_20 zls_20 zMk_20 (by decide +kernel) rfl (by decide +kernel) (by decide +kernel) ⟨by decide, by decide⟩ hl.1 (Nat.le_of_ble_eq_true rfl) (by decide +kernel : decode cL_bestReplan 4 = .ok (.invokevirtual 70, 3)) hK hN hP hD hS hA (fun H1 locs1 hP hD hS hok hvs _ => ?_)
  refine lv_i2l (v := zl v) hx hb (by decide +kernel : decode cL_bestReplan 7 = .ok (.i2l, 1)) rfl ?_
  refine zlc_last hx hb hK hP hD hS (by decide +kernel : decode cL_bestReplan 8 = .ok (.lastore, 1)) (fun H2 locs2 hP hD hS => ?_)
  refine lv_goto (tgt := 15) hx hb (by decide +kernel : decode cL_bestReplan 9 = .ok (.goto 6, 3)) (by decide) ?_
  refine lv_iconst (v := Int32.ofInt 0) hx hb (by decide +kernel : decode cL_bestReplan 15 = .ok (.iconst 0, 1)) (by decide) ?_
  exact zHend hX hP hS hok ⟨by decide, by decide⟩ (by decide +kernel : decode cL_bestReplan 16 = .ok (.ireturn, 1))
theorem hx_20_0 (l : Launch) (hfl : l.stackTraces = false) {σ σ1 : zSt} {f : Nat → Int64} {x0 : Int} (q0 : zr x0) (hσ : zoks σ) (h : zE 20 0 [some (zR 0), some (zI x0), none, none, none, none] [] σ = some (.inr (1, σ1))) : zHCon l yL_bestReplan cL_bestReplan 4 [(0, 9, 12, 13)] [zI x0] σ f 1 σ1 f := by
  have hcon : zConX l 20 (zR 0 :: [zI x0]) σ 1 σ1 := zconX l hfl h zTh_20 zMk_20 (by decide +kernel) (Nat.le_of_ble_eq_true rfl) (by
    intro a ha
    simp only [List.mem_cons, List.not_mem_nil, or_false] at ha
    rcases ha with rfl | rfl <;> first | trivial | assumption) hσ
  refine zHel_of (by decide +kernel) rfl (fun p e s mid args below meth c A D cI cQ cL o hX => ⟨Nat.le_of_ble_eq_true rfl, fun ls hl => ?_⟩)
  obtain ⟨S, hr, hlk, hN, hK, hTv, hNc, hTs, hP, hD, htab⟩ := id hX
  have hx := S.1
  have hb := S.2.1
  have hS : va_S (va_A (zLW A cI cQ cL o σ f) s.heap.size) s.heap s.heap [] := va_S.rf
  have hA : ∀ q : Nat, s.heap.size ≤ q → va_A (zLW A cI cQ cL o σ f) s.heap.size q := fun q h => Or.inr h
  have hl : lv_has ls 4 [(0, .ref (A 0)), (1, .int (Int32.ofInt x0)), (2, .ref o)] := hl
  refine lv_aload_n hx hb (by decide +kernel : decode cL_bestReplan 0 = .ok (.aload_n 2, 1)) rfl (lv_at hl 2 rfl) ?_
  refine lv_iconst (v := 0) hx hb (by decide +kernel : decode cL_bestReplan 1 = .ok (.iconst 0, 1)) (by decide) ?_
  refine lv_aload_n hx hb (by decide +kernel : decode cL_bestReplan 2 = .ok (.aload_n 0, 1)) rfl (lv_at hl 0 rfl) ?_
  refine lv_iload_n hx hb (by decide +kernel : decode cL_bestReplan 3 = .ok (.iload_n 1, 1)) rfl (lv_at hl 1 rfl) ?_
  refine zlc_X (k := 0) (ci := 5) (n := 1) (as := [zI x0]) (rest := [.int 0, .ref o]) S hcon (by decide) rfl rfl zlk_20 zli_20 zls_20 zMk_20 (by decide +kernel) rfl (by decide +kernel) (by decide +kernel) ⟨by decide, by decide⟩ hl.1 (Nat.le_of_ble_eq_true rfl) (by decide +kernel : decode cL_bestReplan 4 = .ok (.invokevirtual 70, 3)) hK hN hTv hTs hP hD hS hA (fun H1 locs1 q ce hP hD hS hok hce hcv hcl _ => ?_)
  refine vx_catch (own := RL) (name := zexn 1) (E := zexn 1) S.2.2.2.1 [] ⟨0, 9, 12, 13⟩ [] htab (fun z hz => by cases hz) rfl (by decide) (S.2.2.2.2 _ zcl_1) (va_Nw.use rfl (hTv.1 _ (List.mem_of_getElem? (i := 3) rfl))) hce hcv hcl ?_
  refine lv_astore_n (lv' := [(3, .ref q), (0, .ref (A 0)), (1, .int (Int32.ofInt x0)), (2, .ref o)]) hx hb (by decide +kernel : decode cL_bestReplan 12 = .ok (.astore_n 3, 1)) rfl hl (by decide) rfl (fun ls hl => ?_)
  refine lv_iconst (v := Int32.ofInt 1) hx hb (by decide +kernel : decode cL_bestReplan 13 = .ok (.iconst 1, 1)) (by decide) ?_
  exact zHend hX hP hS hok ⟨by decide, by decide⟩ (by decide +kernel : decode cL_bestReplan 14 = .ok (.ireturn, 1))
theorem zlk_21 : Cond.methodLink RL 73 yX4_bestOvertime ∈ zWL := zwl 856 (by decide +kernel) rfl
theorem zli_21 : Cond.instanceMethod yX4_bestOvertime ∈ zWL := zwl 857 (by decide +kernel) rfl
theorem zls_21 : Cond.selects RX4 yX4_bestOvertime yX4_bestOvertime ∈ zWL := zwl 858 (by decide +kernel) rfl
theorem hr_21 (l : Launch) {σ σ1 : zSt} {f : Nat → Int64} {x0 : Int} (q0 : zr x0) {v : Int} (hσ : zoks σ) (h : zE 21 0 [some (zR 0), some (zI x0), none, none, none, none, none] [] σ = zRI v σ1) : zHCon l yL_bestOvertime cL_bestOvertime 4 [(0, 9, 12, 13)] [zI x0] σ f 0 σ1 (vp_updL f 0 (zl v)) := by
  have hcon : zCon l 21 (zR 0 :: [zI x0]) σ (some (zI v)) σ1 := zE_con l h zMk_21 (Nat.le_of_ble_eq_true rfl) (by
    intro a ha
    simp only [List.mem_cons, List.not_mem_nil, or_false] at ha
    rcases ha with rfl | rfl <;> first | trivial | assumption) hσ
  refine zHel_of (by decide +kernel) rfl (fun p e s mid args below meth c A D cI cQ cL o hX => ⟨Nat.le_of_ble_eq_true rfl, fun ls hl => ?_⟩)
  obtain ⟨S, hr, hlk, hN, hK, hTv, hNc, hTs, hP, hD, htab⟩ := id hX
  have hx := S.1
  have hb := S.2.1
  have hS : va_S (va_A (zLW A cI cQ cL o σ f) s.heap.size) s.heap s.heap [] := va_S.rf
  have hA : ∀ q : Nat, s.heap.size ≤ q → va_A (zLW A cI cQ cL o σ f) s.heap.size q := fun q h => Or.inr h
  have hl : lv_has ls 4 [(0, .ref (A 0)), (1, .int (Int32.ofInt x0)), (2, .ref o)] := hl
  refine lv_aload_n hx hb (by decide +kernel : decode cL_bestOvertime 0 = .ok (.aload_n 2, 1)) rfl (lv_at hl 2 rfl) ?_
  refine lv_iconst (v := 0) hx hb (by decide +kernel : decode cL_bestOvertime 1 = .ok (.iconst 0, 1)) (by decide) ?_
  refine lv_aload_n hx hb (by decide +kernel : decode cL_bestOvertime 2 = .ok (.aload_n 0, 1)) rfl (lv_at hl 0 rfl) ?_
  refine lv_iload_n hx hb (by decide +kernel : decode cL_bestOvertime 3 = .ok (.iload_n 1, 1)) rfl (lv_at hl 1 rfl) ?_
  refine zlc_V (k := 0) (ci := 5) (n := 1) (as := [zI x0]) (rest := [.int 0, .ref o]) S hcon (by decide) rfl rfl zlk_21 zli_21 zls_21 zMk_21 (by decide +kernel) rfl (by decide +kernel) (by decide +kernel) ⟨by decide, by decide⟩ hl.1 (Nat.le_of_ble_eq_true rfl) (by decide +kernel : decode cL_bestOvertime 4 = .ok (.invokevirtual 73, 3)) hK hN hP hD hS hA (fun H1 locs1 hP hD hS hok hvs _ => ?_)
  refine lv_i2l (v := zl v) hx hb (by decide +kernel : decode cL_bestOvertime 7 = .ok (.i2l, 1)) rfl ?_
  refine zlc_last hx hb hK hP hD hS (by decide +kernel : decode cL_bestOvertime 8 = .ok (.lastore, 1)) (fun H2 locs2 hP hD hS => ?_)
  refine lv_goto (tgt := 15) hx hb (by decide +kernel : decode cL_bestOvertime 9 = .ok (.goto 6, 3)) (by decide) ?_
  refine lv_iconst (v := Int32.ofInt 0) hx hb (by decide +kernel : decode cL_bestOvertime 15 = .ok (.iconst 0, 1)) (by decide) ?_
  exact zHend hX hP hS hok ⟨by decide, by decide⟩ (by decide +kernel : decode cL_bestOvertime 16 = .ok (.ireturn, 1))
theorem hx_21_0 (l : Launch) (hfl : l.stackTraces = false) {σ σ1 : zSt} {f : Nat → Int64} {x0 : Int} (q0 : zr x0) (hσ : zoks σ) (h : zE 21 0 [some (zR 0), some (zI x0), none, none, none, none, none] [] σ = some (.inr (1, σ1))) : zHCon l yL_bestOvertime cL_bestOvertime 4 [(0, 9, 12, 13)] [zI x0] σ f 1 σ1 f := by
  have hcon : zConX l 21 (zR 0 :: [zI x0]) σ 1 σ1 := zconX l hfl h zTh_21 zMk_21 (by decide +kernel) (Nat.le_of_ble_eq_true rfl) (by
    intro a ha
    simp only [List.mem_cons, List.not_mem_nil, or_false] at ha
    rcases ha with rfl | rfl <;> first | trivial | assumption) hσ
  refine zHel_of (by decide +kernel) rfl (fun p e s mid args below meth c A D cI cQ cL o hX => ⟨Nat.le_of_ble_eq_true rfl, fun ls hl => ?_⟩)
  obtain ⟨S, hr, hlk, hN, hK, hTv, hNc, hTs, hP, hD, htab⟩ := id hX
  have hx := S.1
  have hb := S.2.1
  have hS : va_S (va_A (zLW A cI cQ cL o σ f) s.heap.size) s.heap s.heap [] := va_S.rf
  have hA : ∀ q : Nat, s.heap.size ≤ q → va_A (zLW A cI cQ cL o σ f) s.heap.size q := fun q h => Or.inr h
  have hl : lv_has ls 4 [(0, .ref (A 0)), (1, .int (Int32.ofInt x0)), (2, .ref o)] := hl
  refine lv_aload_n hx hb (by decide +kernel : decode cL_bestOvertime 0 = .ok (.aload_n 2, 1)) rfl (lv_at hl 2 rfl) ?_
  refine lv_iconst (v := 0) hx hb (by decide +kernel : decode cL_bestOvertime 1 = .ok (.iconst 0, 1)) (by decide) ?_
  refine lv_aload_n hx hb (by decide +kernel : decode cL_bestOvertime 2 = .ok (.aload_n 0, 1)) rfl (lv_at hl 0 rfl) ?_
  refine lv_iload_n hx hb (by decide +kernel : decode cL_bestOvertime 3 = .ok (.iload_n 1, 1)) rfl (lv_at hl 1 rfl) ?_
  refine zlc_X (k := 0) (ci := 5) (n := 1) (as := [zI x0]) (rest := [.int 0, .ref o]) S hcon (by decide) rfl rfl zlk_21 zli_21 zls_21 zMk_21 (by decide +kernel) rfl (by decide +kernel) (by decide +kernel) ⟨by decide, by decide⟩ hl.1 (Nat.le_of_ble_eq_true rfl) (by decide +kernel : decode cL_bestOvertime 4 = .ok (.invokevirtual 73, 3)) hK hN hTv hTs hP hD hS hA (fun H1 locs1 q ce hP hD hS hok hce hcv hcl _ => ?_)
  refine vx_catch (own := RL) (name := zexn 1) (E := zexn 1) S.2.2.2.1 [] ⟨0, 9, 12, 13⟩ [] htab (fun z hz => by cases hz) rfl (by decide) (S.2.2.2.2 _ zcl_1) (va_Nw.use rfl (hTv.1 _ (List.mem_of_getElem? (i := 3) rfl))) hce hcv hcl ?_
  refine lv_astore_n (lv' := [(3, .ref q), (0, .ref (A 0)), (1, .int (Int32.ofInt x0)), (2, .ref o)]) hx hb (by decide +kernel : decode cL_bestOvertime 12 = .ok (.astore_n 3, 1)) rfl hl (by decide) rfl (fun ls hl => ?_)
  refine lv_iconst (v := Int32.ofInt 1) hx hb (by decide +kernel : decode cL_bestOvertime 13 = .ok (.iconst 1, 1)) (by decide) ?_
  exact zHend hX hP hS hok ⟨by decide, by decide⟩ (by decide +kernel : decode cL_bestOvertime 14 = .ok (.ireturn, 1))
theorem zlk_22 : Cond.methodLink RL 76 yX4_append ∈ zWL := zwl 867 (by decide +kernel) rfl
theorem zli_22 : Cond.instanceMethod yX4_append ∈ zWL := zwl 868 (by decide +kernel) rfl
theorem zls_22 : Cond.selects RX4 yX4_append yX4_append ∈ zWL := zwl 869 (by decide +kernel) rfl
theorem hr_22 (l : Launch) {σ σ1 : zSt} {f : Nat → Int64} {x0 : Int} (q0 : zr x0) {v : Int} (hσ : zoks σ) (h : zE 22 0 [some (zR 0), some (zI x0)] [] σ = zRI v σ1) : zHCon l yL_append cL_append 4 [(0, 9, 12, 13), (0, 9, 15, 19)] [zI x0] σ f 0 σ1 (vp_updL f 0 (zl v)) := by
  have hcon : zCon l 22 (zR 0 :: [zI x0]) σ (some (zI v)) σ1 := zE_con l h zMk_22 (Nat.le_of_ble_eq_true rfl) (by
    intro a ha
    simp only [List.mem_cons, List.not_mem_nil, or_false] at ha
    rcases ha with rfl | rfl <;> first | trivial | assumption) hσ
  refine zHel_of (by decide +kernel) rfl (fun p e s mid args below meth c A D cI cQ cL o hX => ⟨Nat.le_of_ble_eq_true rfl, fun ls hl => ?_⟩)
  obtain ⟨S, hr, hlk, hN, hK, hTv, hNc, hTs, hP, hD, htab⟩ := id hX
  have hx := S.1
  have hb := S.2.1
  have hS : va_S (va_A (zLW A cI cQ cL o σ f) s.heap.size) s.heap s.heap [] := va_S.rf
  have hA : ∀ q : Nat, s.heap.size ≤ q → va_A (zLW A cI cQ cL o σ f) s.heap.size q := fun q h => Or.inr h
  have hl : lv_has ls 4 [(0, .ref (A 0)), (1, .int (Int32.ofInt x0)), (2, .ref o)] := hl
  refine lv_aload_n hx hb (by decide +kernel : decode cL_append 0 = .ok (.aload_n 2, 1)) rfl (lv_at hl 2 rfl) ?_
  refine lv_iconst (v := 0) hx hb (by decide +kernel : decode cL_append 1 = .ok (.iconst 0, 1)) (by decide) ?_
  refine lv_aload_n hx hb (by decide +kernel : decode cL_append 2 = .ok (.aload_n 0, 1)) rfl (lv_at hl 0 rfl) ?_
  refine lv_iload_n hx hb (by decide +kernel : decode cL_append 3 = .ok (.iload_n 1, 1)) rfl (lv_at hl 1 rfl) ?_
  refine zlc_V (k := 0) (ci := 5) (n := 1) (as := [zI x0]) (rest := [.int 0, .ref o]) S hcon (by decide) rfl rfl zlk_22 zli_22 zls_22 zMk_22 (by decide +kernel) rfl (by decide +kernel) (by decide +kernel) ⟨by decide, by decide⟩ hl.1 (Nat.le_of_ble_eq_true rfl) (by decide +kernel : decode cL_append 4 = .ok (.invokevirtual 76, 3)) hK hN hP hD hS hA (fun H1 locs1 hP hD hS hok hvs _ => ?_)
  refine lv_i2l (v := zl v) hx hb (by decide +kernel : decode cL_append 7 = .ok (.i2l, 1)) rfl ?_
  refine zlc_last hx hb hK hP hD hS (by decide +kernel : decode cL_append 8 = .ok (.lastore, 1)) (fun H2 locs2 hP hD hS => ?_)
  refine lv_goto (tgt := 18) hx hb (by decide +kernel : decode cL_append 9 = .ok (.goto 9, 3)) (by decide) ?_
  refine lv_iconst (v := Int32.ofInt 0) hx hb (by decide +kernel : decode cL_append 18 = .ok (.iconst 0, 1)) (by decide) ?_
  exact zHend hX hP hS hok ⟨by decide, by decide⟩ (by decide +kernel : decode cL_append 19 = .ok (.ireturn, 1))
theorem hx_22_0 (l : Launch) (hfl : l.stackTraces = false) {σ σ1 : zSt} {f : Nat → Int64} {x0 : Int} (q0 : zr x0) (hσ : zoks σ) (h : zE 22 0 [some (zR 0), some (zI x0)] [] σ = some (.inr (1, σ1))) : zHCon l yL_append cL_append 4 [(0, 9, 12, 13), (0, 9, 15, 19)] [zI x0] σ f 1 σ1 f := by
  have hcon : zConX l 22 (zR 0 :: [zI x0]) σ 1 σ1 := zconX l hfl h zTh_22 zMk_22 (by decide +kernel) (Nat.le_of_ble_eq_true rfl) (by
    intro a ha
    simp only [List.mem_cons, List.not_mem_nil, or_false] at ha
    rcases ha with rfl | rfl <;> first | trivial | assumption) hσ
  refine zHel_of (by decide +kernel) rfl (fun p e s mid args below meth c A D cI cQ cL o hX => ⟨Nat.le_of_ble_eq_true rfl, fun ls hl => ?_⟩)
  obtain ⟨S, hr, hlk, hN, hK, hTv, hNc, hTs, hP, hD, htab⟩ := id hX
  have hx := S.1
  have hb := S.2.1
  have hS : va_S (va_A (zLW A cI cQ cL o σ f) s.heap.size) s.heap s.heap [] := va_S.rf
  have hA : ∀ q : Nat, s.heap.size ≤ q → va_A (zLW A cI cQ cL o σ f) s.heap.size q := fun q h => Or.inr h
  have hl : lv_has ls 4 [(0, .ref (A 0)), (1, .int (Int32.ofInt x0)), (2, .ref o)] := hl
  refine lv_aload_n hx hb (by decide +kernel : decode cL_append 0 = .ok (.aload_n 2, 1)) rfl (lv_at hl 2 rfl) ?_
  refine lv_iconst (v := 0) hx hb (by decide +kernel : decode cL_append 1 = .ok (.iconst 0, 1)) (by decide) ?_
  refine lv_aload_n hx hb (by decide +kernel : decode cL_append 2 = .ok (.aload_n 0, 1)) rfl (lv_at hl 0 rfl) ?_
  refine lv_iload_n hx hb (by decide +kernel : decode cL_append 3 = .ok (.iload_n 1, 1)) rfl (lv_at hl 1 rfl) ?_
  refine zlc_X (k := 0) (ci := 5) (n := 1) (as := [zI x0]) (rest := [.int 0, .ref o]) S hcon (by decide) rfl rfl zlk_22 zli_22 zls_22 zMk_22 (by decide +kernel) rfl (by decide +kernel) (by decide +kernel) ⟨by decide, by decide⟩ hl.1 (Nat.le_of_ble_eq_true rfl) (by decide +kernel : decode cL_append 4 = .ok (.invokevirtual 76, 3)) hK hN hTv hTs hP hD hS hA (fun H1 locs1 q ce hP hD hS hok hce hcv hcl _ => ?_)
  refine vx_catch (own := RL) (name := zexn 1) (E := zexn 1) S.2.2.2.1 [] ⟨0, 9, 12, 13⟩ [⟨0, 9, 15, 19⟩] htab (fun z hz => by cases hz) rfl (by decide) (S.2.2.2.2 _ zcl_1) (va_Nw.use rfl (hTv.1 _ (List.mem_of_getElem? (i := 3) rfl))) hce hcv hcl ?_
  refine lv_astore_n (lv' := [(3, .ref q), (0, .ref (A 0)), (1, .int (Int32.ofInt x0)), (2, .ref o)]) hx hb (by decide +kernel : decode cL_append 12 = .ok (.astore_n 3, 1)) rfl hl (by decide) rfl (fun ls hl => ?_)
  refine lv_iconst (v := Int32.ofInt 1) hx hb (by decide +kernel : decode cL_append 13 = .ok (.iconst 1, 1)) (by decide) ?_
  exact zHend hX hP hS hok ⟨by decide, by decide⟩ (by decide +kernel : decode cL_append 14 = .ok (.ireturn, 1))
theorem hx_22_1 (l : Launch) (hfl : l.stackTraces = false) {σ σ1 : zSt} {f : Nat → Int64} {x0 : Int} (q0 : zr x0) (hσ : zoks σ) (h : zE 22 0 [some (zR 0), some (zI x0)] [] σ = some (.inr (2, σ1))) : zHCon l yL_append cL_append 4 [(0, 9, 12, 13), (0, 9, 15, 19)] [zI x0] σ f 2 σ1 f := by
  have hcon : zConX l 22 (zR 0 :: [zI x0]) σ 2 σ1 := zconX l hfl h zTh_22 zMk_22 (by decide +kernel) (Nat.le_of_ble_eq_true rfl) (by
    intro a ha
    simp only [List.mem_cons, List.not_mem_nil, or_false] at ha
    rcases ha with rfl | rfl <;> first | trivial | assumption) hσ
  refine zHel_of (by decide +kernel) rfl (fun p e s mid args below meth c A D cI cQ cL o hX => ⟨Nat.le_of_ble_eq_true rfl, fun ls hl => ?_⟩)
  obtain ⟨S, hr, hlk, hN, hK, hTv, hNc, hTs, hP, hD, htab⟩ := id hX
  have hx := S.1
  have hb := S.2.1
  have hS : va_S (va_A (zLW A cI cQ cL o σ f) s.heap.size) s.heap s.heap [] := va_S.rf
  have hA : ∀ q : Nat, s.heap.size ≤ q → va_A (zLW A cI cQ cL o σ f) s.heap.size q := fun q h => Or.inr h
  have hl : lv_has ls 4 [(0, .ref (A 0)), (1, .int (Int32.ofInt x0)), (2, .ref o)] := hl
  refine lv_aload_n hx hb (by decide +kernel : decode cL_append 0 = .ok (.aload_n 2, 1)) rfl (lv_at hl 2 rfl) ?_
  refine lv_iconst (v := 0) hx hb (by decide +kernel : decode cL_append 1 = .ok (.iconst 0, 1)) (by decide) ?_
  refine lv_aload_n hx hb (by decide +kernel : decode cL_append 2 = .ok (.aload_n 0, 1)) rfl (lv_at hl 0 rfl) ?_
  refine lv_iload_n hx hb (by decide +kernel : decode cL_append 3 = .ok (.iload_n 1, 1)) rfl (lv_at hl 1 rfl) ?_
  refine zlc_X (k := 0) (ci := 5) (n := 1) (as := [zI x0]) (rest := [.int 0, .ref o]) S hcon (by decide) rfl rfl zlk_22 zli_22 zls_22 zMk_22 (by decide +kernel) rfl (by decide +kernel) (by decide +kernel) ⟨by decide, by decide⟩ hl.1 (Nat.le_of_ble_eq_true rfl) (by decide +kernel : decode cL_append 4 = .ok (.invokevirtual 76, 3)) hK hN hTv hTs hP hD hS hA (fun H1 locs1 q ce hP hD hS hok hce hcv hcl _ => ?_)
  refine vx_catch (own := RL) (name := zexn 2) (E := zexn 2) S.2.2.2.1 [⟨0, 9, 12, 13⟩] ⟨0, 9, 15, 19⟩ [] htab (fun z hz => by
    rw [List.mem_singleton.mp hz]
    exact Or.inr ⟨by decide, zexn 1, S.2.2.2.2 _ zcl_1, hNc.1⟩) rfl (by decide) (S.2.2.2.2 _ zcl_2) (va_Nw.use rfl (hTv.1 _ (List.mem_of_getElem? (i := 4) rfl))) hce hcv hcl ?_
  refine lv_astore_n (lv' := [(3, .ref q), (0, .ref (A 0)), (1, .int (Int32.ofInt x0)), (2, .ref o)]) hx hb (by decide +kernel : decode cL_append 15 = .ok (.astore_n 3, 1)) rfl hl (by decide) rfl (fun ls hl => ?_)
  refine lv_iconst (v := Int32.ofInt 2) hx hb (by decide +kernel : decode cL_append 16 = .ok (.iconst 2, 1)) (by decide) ?_
  exact zHend hX hP hS hok ⟨by decide, by decide⟩ (by decide +kernel : decode cL_append 17 = .ok (.ireturn, 1))
theorem zlk_25 : Cond.methodLink RL 79 yX4_undo ∈ zWL := zwl 876 (by decide +kernel) rfl
theorem zli_25 : Cond.instanceMethod yX4_undo ∈ zWL := zwl 877 (by decide +kernel) rfl
theorem zls_25 : Cond.selects RX4 yX4_undo yX4_undo ∈ zWL := zwl 878 (by decide +kernel) rfl
theorem hr_25 (l : Launch) {σ σ1 : zSt} {f : Nat → Int64}  {v : Int} (hσ : zoks σ) (h : zE 25 0 [some (zR 0)] [] σ = zRI v σ1) : zHCon l yL_undo cL_undo 3 [(0, 8, 11, 19)] [] σ f 0 σ1 (vp_updL f 0 (zl v)) := by
  have hcon : zCon l 25 (zR 0 :: []) σ (some (zI v)) σ1 := zE_con l h zMk_25 (Nat.le_of_ble_eq_true rfl) (by
    intro a ha
    rw [List.mem_singleton.mp ha]
    trivial) hσ
  refine zHel_of (by decide +kernel) rfl (fun p e s mid args below meth c A D cI cQ cL o hX => ⟨Nat.le_of_ble_eq_true rfl, fun ls hl => ?_⟩)
  obtain ⟨S, hr, hlk, hN, hK, hTv, hNc, hTs, hP, hD, htab⟩ := id hX
  have hx := S.1
  have hb := S.2.1
  have hS : va_S (va_A (zLW A cI cQ cL o σ f) s.heap.size) s.heap s.heap [] := va_S.rf
  have hA : ∀ q : Nat, s.heap.size ≤ q → va_A (zLW A cI cQ cL o σ f) s.heap.size q := fun q h => Or.inr h
  have hl : lv_has ls 3 [(0, .ref (A 0)), (1, .ref o)] := hl
  refine lv_aload_n hx hb (by decide +kernel : decode cL_undo 0 = .ok (.aload_n 1, 1)) rfl (lv_at hl 1 rfl) ?_
  refine lv_iconst (v := 0) hx hb (by decide +kernel : decode cL_undo 1 = .ok (.iconst 0, 1)) (by decide) ?_
  refine lv_aload_n hx hb (by decide +kernel : decode cL_undo 2 = .ok (.aload_n 0, 1)) rfl (lv_at hl 0 rfl) ?_
  refine zlc_V (k := 0) (ci := 5) (n := 0) (as := []) (rest := [.int 0, .ref o]) S hcon (by decide) rfl rfl zlk_25 zli_25 zls_25 zMk_25 (by decide +kernel) rfl (by decide +kernel) (by decide +kernel) ⟨by decide, by decide⟩ hl.1 (Nat.le_of_ble_eq_true rfl) (by decide +kernel : decode cL_undo 3 = .ok (.invokevirtual 79, 3)) hK hN hP hD hS hA (fun H1 locs1 hP hD hS hok hvs _ => ?_)
  refine lv_i2l (v := zl v) hx hb (by decide +kernel : decode cL_undo 6 = .ok (.i2l, 1)) rfl ?_
  refine zlc_last hx hb hK hP hD hS (by decide +kernel : decode cL_undo 7 = .ok (.lastore, 1)) (fun H2 locs2 hP hD hS => ?_)
  refine lv_goto (tgt := 14) hx hb (by decide +kernel : decode cL_undo 8 = .ok (.goto 6, 3)) (by decide) ?_
  refine lv_iconst (v := Int32.ofInt 0) hx hb (by decide +kernel : decode cL_undo 14 = .ok (.iconst 0, 1)) (by decide) ?_
  exact zHend hX hP hS hok ⟨by decide, by decide⟩ (by decide +kernel : decode cL_undo 15 = .ok (.ireturn, 1))
theorem hx_25_0 (l : Launch) (hfl : l.stackTraces = false) {σ σ1 : zSt} {f : Nat → Int64}  (hσ : zoks σ) (h : zE 25 0 [some (zR 0)] [] σ = some (.inr (2, σ1))) : zHCon l yL_undo cL_undo 3 [(0, 8, 11, 19)] [] σ f 1 σ1 f := by
  have hcon : zConX l 25 (zR 0 :: []) σ 2 σ1 := zconX l hfl h zTh_25 zMk_25 (by decide +kernel) (Nat.le_of_ble_eq_true rfl) (by
    intro a ha
    rw [List.mem_singleton.mp ha]
    trivial) hσ
  refine zHel_of (by decide +kernel) rfl (fun p e s mid args below meth c A D cI cQ cL o hX => ⟨Nat.le_of_ble_eq_true rfl, fun ls hl => ?_⟩)
  obtain ⟨S, hr, hlk, hN, hK, hTv, hNc, hTs, hP, hD, htab⟩ := id hX
  have hx := S.1
  have hb := S.2.1
  have hS : va_S (va_A (zLW A cI cQ cL o σ f) s.heap.size) s.heap s.heap [] := va_S.rf
  have hA : ∀ q : Nat, s.heap.size ≤ q → va_A (zLW A cI cQ cL o σ f) s.heap.size q := fun q h => Or.inr h
  have hl : lv_has ls 3 [(0, .ref (A 0)), (1, .ref o)] := hl
  refine lv_aload_n hx hb (by decide +kernel : decode cL_undo 0 = .ok (.aload_n 1, 1)) rfl (lv_at hl 1 rfl) ?_
  refine lv_iconst (v := 0) hx hb (by decide +kernel : decode cL_undo 1 = .ok (.iconst 0, 1)) (by decide) ?_
  refine lv_aload_n hx hb (by decide +kernel : decode cL_undo 2 = .ok (.aload_n 0, 1)) rfl (lv_at hl 0 rfl) ?_
  refine zlc_X (k := 0) (ci := 5) (n := 0) (as := []) (rest := [.int 0, .ref o]) S hcon (by decide) rfl rfl zlk_25 zli_25 zls_25 zMk_25 (by decide +kernel) rfl (by decide +kernel) (by decide +kernel) ⟨by decide, by decide⟩ hl.1 (Nat.le_of_ble_eq_true rfl) (by decide +kernel : decode cL_undo 3 = .ok (.invokevirtual 79, 3)) hK hN hTv hTs hP hD hS hA (fun H1 locs1 q ce hP hD hS hok hce hcv hcl _ => ?_)
  refine vx_catch (own := RL) (name := zexn 2) (E := zexn 2) S.2.2.2.1 [] ⟨0, 8, 11, 19⟩ [] htab (fun z hz => by cases hz) rfl (by decide) (S.2.2.2.2 _ zcl_2) (va_Nw.use rfl (hTv.1 _ (List.mem_of_getElem? (i := 4) rfl))) hce hcv hcl ?_
  refine lv_astore_n (lv' := [(2, .ref q), (0, .ref (A 0)), (1, .ref o)]) hx hb (by decide +kernel : decode cL_undo 11 = .ok (.astore_n 2, 1)) rfl hl (by decide) rfl (fun ls hl => ?_)
  refine lv_iconst (v := Int32.ofInt 1) hx hb (by decide +kernel : decode cL_undo 12 = .ok (.iconst 1, 1)) (by decide) ?_
  exact zHend hX hP hS hok ⟨by decide, by decide⟩ (by decide +kernel : decode cL_undo 13 = .ok (.ireturn, 1))
