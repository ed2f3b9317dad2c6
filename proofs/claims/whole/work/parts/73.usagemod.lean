/-! ===== 73: the model's usage ===== -/
theorem zqv_1 : Cond.fieldLink RX5 22 RX5 "thrown" "I" ∈ zWL := zwl 892 (by decide +kernel) rfl
theorem zqv_2 : Cond.fieldLink RX5 7 RX5 "state" "[I" ∈ zWL := zwl 893 (by decide +kernel) rfl
theorem zqv_3 : Cond.methodLink RX5 121 yX5_hasPlan ∈ zWL := zwl 1065 (by decide +kernel) rfl
theorem zqv_4 : Cond.methodLink RX5 147 yX5_operationMany ∈ zWL := zwl 1136 (by decide +kernel) rfl
theorem zqv_5 : Cond.methodLink RX5 138 yX5_jobValue ∈ zWL := zwl 1108 (by decide +kernel) rfl
theorem zqv_6 : Cond.methodLink RX5 151 yX5_greatestEnd ∈ zWL := zwl 1140 (by decide +kernel) rfl
theorem zqv_i1 : Cond.instanceMethod yX5_hasPlan ∈ zWL := of_decide_eq_true (by decide +kernel)
theorem zqv_i2 : Cond.instanceMethod yX5_operationMany ∈ zWL := of_decide_eq_true (by decide +kernel)
theorem zqv_i3 : Cond.instanceMethod yX5_jobValue ∈ zWL := of_decide_eq_true (by decide +kernel)
theorem zqv_i4 : Cond.instanceMethod yX5_greatestEnd ∈ zWL := of_decide_eq_true (by decide +kernel)
theorem zqv_s1 : Cond.selects RX5 yX5_hasPlan yX5_hasPlan ∈ zWL := of_decide_eq_true (by decide +kernel)
theorem zqv_s2 : Cond.selects RX5 yX5_operationMany yX5_operationMany ∈ zWL := of_decide_eq_true (by decide +kernel)
theorem zqv_s3 : Cond.selects RX5 yX5_jobValue yX5_jobValue ∈ zWL := of_decide_eq_true (by decide +kernel)
theorem zqv_s4 : Cond.selects RX5 yX5_greatestEnd yX5_greatestEnd ∈ zWL := of_decide_eq_true (by decide +kernel)
theorem jbV_3 {S : Row} {j : Nat} : jbV S j 3 = wkS S j := by
  unfold jbV
  rw [if_neg (by decide), if_neg (by decide), if_neg (by decide), if_pos rfl]
/-- the model's usage -/
theorem m_usage (l : Launch) {σ : zSt} {S : Row} {B : Int} (hS : σ 65 = S) (hO : Ok S B) (hB : B ≤ 700000) (hσ : zoks σ) : zDCon l yX5_usage cX5_usage 3 9 σ (zup σ 9 0 0) (usP S) := by
  have hG := hO.1
  have g0 := hG.1.1
  have g1 := hG.1.2.1
  have g3 := hG.1.2.2.2
  intro D A cI cQ sz
  refine MetD.ofW (cc := cX5_usage) (maxL := 3) (ret := some .double) (by decide +kernel) rfl ?_
  intro p e s mid args below meth c s₁ Bd hml hv hd0
  obtain ⟨rfl, hsz, hP, hK, hD0, hN⟩ := hv
  have hr := Bd.returns
  have hts := atoms_spec (ws := Cond.code yX5_usage cX5_usage 3 (some .double) :: zWL) Bd.pre
  have hown : s.vm.findClass RX5 = some mid.cls := findClass_of_methodNamed Bd.named
  have hlk := Bd.notSynchronized
  subst hsz
  have hD := hD0.self (sz := s.heap.size)
  have S0 : CallFix p mid c cX5_usage 3 (s.setDrawn s.drawn) #[.ref (A 9)] zWL RX5 := ⟨Bd.exec, Bd.bytes, hml, hown, dr_words (fun w hw => hts w (List.mem_cons_of_mem _ hw)) s.drawn⟩
  have hx := S0.1
  have hb := S0.2.1
  have hN0 : zNst (s.setDrawn s.drawn) := zNst_same (u := s) rfl hN
  have hK0 : va_K D zcls (ztys cI cQ) (s.setDrawn s.drawn) := va_K.moved (u := s) (U := s.setDrawn s.drawn) (Vm.Alike.refl s.vm) hK
  generalize hAe : va_A (zW A cI cQ σ) s.heap.size = A0 at *
  have hA : ∀ q : Nat, s.heap.size ≤ q → A0 q := fun q h => by rw [← hAe]; exact Or.inr h
  have hS0 : va_S A0 s.heap s.heap [] := va_S.rf
  have hl := lv_entry ([.ref (A 9)]) (n := 3) (Nat.le_of_ble_eq_true rfl)
  rw [lg_entry_eq]
  generalize (lg_sl ([.ref (A 9)]) ++ List.replicate (3 - (lg_sl ([.ref (A 9)])).length) Slot.unset).toArray = ls at hl ⊢
  have hl : lv_has ls 3 [(0, .ref (A 9))] := hl
  refine lv_aload_n hx hb (by decide +kernel : decode cX5_usage 0 = .ok (.aload_n 0, 1)) rfl (lv_at hl 0 rfl) ?_
  refine lv_iconst (v := Int32.ofInt 0) hx hb (by decide +kernel : decode cX5_usage 1 = .ok (.iconst 0, 1)) (by decide) ?_
  refine va_put (ci := 5) (v := .int (Int32.ofInt 0)) (ty := .int) hx hb S0.2.2.2.2 zin_6 tyX5 tyX5_ok nmX5 hown hK0 hP hD hS0 9 (by rw [zW_get (by decide), zent_obj (by decide)]; rfl) rfl 0 (by decide) (S0.2.2.2.2 _ zqv_1) (fun _ h9 => h9) rfl (by decide +kernel) rfl rfl (Nat.le_of_ble_eq_true rfl) (by decide +kernel : decode cX5_usage 2 = .ok (.putfield 22, 3)) (fun H1 locs1 hP1 hD1 hS1 => ?_)
  have ez : (zW A cI cQ σ).set 9 (A 9, .inr (5, ((List.range (znf 9)).map (zfv A σ 9)).set 0 (.int (Int32.ofInt 0)))) = zW A cI cQ (zup σ 9 0 0) := zent_put (k := 9) (j := 0) (by decide) rfl (by decide)
  have hat : zAt A A0 D cI cQ s.heap H1 locs1 (zup σ 9 0 0) := ⟨by rw [← ez]; exact hP1, by rw [← ez]; exact hD1, hS1⟩
  have hσ1 : zoks (zup σ 9 0 0) := zoks_up hσ zr0
  have h65 : (zup σ 9 0 0) 65 = S := by rw [zup9_65]; exact hS
  generalize zup σ 9 0 0 = σ1 at *
  have hG1 : Good (σ1 65) := by rw [h65]; exact hG
  have zer : ∀ (H : Heap) (locs : List Loc) (ls : Array Slot), zAt A A0 D cI cQ s.heap H locs σ1 → ¬ (S 3 = 1 ∧ opn S ≠ 0) → W p l e zRu (s.setDrawn s.drawn) mid #[.ref (A 9)] below meth c H locs 0 0 (MQD lw_cs below (zDPost D A cI cQ s.heap.size σ σ1 (usP S)) #[.ref (A 9)] s 0 0 A0) (F0 mid 19 ls []) := by
    intro H locs ls hat hno
    refine lv_dconst0 hx hb (by decide +kernel : decode cX5_usage 19 = .ok (.dconst 0, 1)) ?_
    refine W.endD hd0 ?_
    exact W.dret hx hb hr (fun t ht hW => ⟨⟨⟨_, rfl, fun q => absurd q hno, fun _ => rfl⟩, by rw [ht]; exact hat.1⟩, by rw [hAe]; exact hat.2.2.F ht⟩) hat.2.2.2.2 (by decide +kernel : decode cX5_usage 20 = .ok (.dreturn, 1)) hlk
  refine lv_aload_n hx hb (by decide +kernel : decode cX5_usage 5 = .ok (.aload_n 0, 1)) rfl (lv_at hl 0 rfl) ?_
  have e73 : zE 73 0 [some (zR 9)] [] σ1 = zRI (if S 3 = 1 then 1 else 0) σ1 := by rw [s73, h65]
  refine zu_V (k := 9) (ci := 6) (n := 0) (m := 73) (as := []) (rest := []) S0 (zcon0 l e73 zMk_73 (Nat.le_of_ble_eq_true rfl) hσ1) (by decide) rfl rfl zqv_3 zqv_i1 zqv_s1 zMk_73 (by decide +kernel) rfl (by decide +kernel) (by decide +kernel) hl.1 (Nat.le_of_ble_eq_true rfl) (by decide +kernel : decode cX5_usage 6 = .ok (.invokevirtual 121, 3)) hK0 hN0 hat hA (fun H2 locs2 hat hok hvs => ?_)
  refine lv_if_eq (tgt := 19) hx hb (by decide +kernel : decode cX5_usage 9 = .ok (.ifCond .eq 10, 3)) (by decide) (fun c0 => ?_) (fun c0 => ?_)
  · refine zer _ _ ls hat (fun q => ?_)
    rw [if_pos q.1] at c0
    exact absurd c0 (by decide)
  · have c3 : S 3 = 1 := by
      by_cases q : S 3 = 1
      · exact q
      · rw [if_neg q] at c0
        exact absurd rfl c0
    obtain ⟨v2, v3⟩ := hO.2 c3
    obtain ⟨o1, o2, o3⟩ := opn_ok hG (nJ S) (Nat.le_refl _)
    have hnJ : (nJ S : Int) ≤ 6 := by have := g1.2; unfold nJ; omega
    have e88 : zE 88 0 [some (zR 9), none, none] [] σ1 = zRI (opn S) σ1 := by rw [s88 hG1, h65]
    refine lv_aload_n hx hb (by decide +kernel : decode cX5_usage 12 = .ok (.aload_n 0, 1)) rfl (lv_at hl 0 rfl) ?_
    refine zu_V (k := 9) (ci := 6) (n := 0) (m := 88) (as := []) (rest := []) S0 (zcon0 l e88 zMk_88 (Nat.le_of_ble_eq_true rfl) hσ1) (by decide) rfl rfl zqv_4 zqv_i2 zqv_s2 zMk_88 (by decide +kernel) rfl (by decide +kernel) (by decide +kernel) hl.1 (Nat.le_of_ble_eq_true rfl) (by decide +kernel : decode cX5_usage 13 = .ok (.invokevirtual 147, 3)) hK0 hN0 hat hA (fun H3 locs3 hat hok hvs => ?_)
    have ro : zr (opn S) := ⟨by unfold opn; omega, by unfold opn; omega⟩
    refine lv_if_ne (tgt := 21) hx hb (by decide +kernel : decode cX5_usage 16 = .ok (.ifCond .ne 5, 3)) (by decide) (fun c1 => ?_) (fun c1 => ?_)
    · have hno : opn S ≠ 0 := fun z => c1 ((zof_eq0 ro).mpr z)
      refine lv_iconst (v := Int32.ofInt 0) hx hb (by decide +kernel : decode cX5_usage 21 = .ok (.iconst 0, 1)) (by decide) ?_
      refine lv_istore_n (lv' := [(1, .int (Int32.ofInt 0)), (0, .ref (A 9))]) hx hb (by decide +kernel : decode cX5_usage 22 = .ok (.istore_n 1, 1)) rfl hl (by decide) rfl (fun ls hl => ?_)
      refine lv_iconst (v := Int32.ofInt 0) hx hb (by decide +kernel : decode cX5_usage 23 = .ok (.iconst 0, 1)) (by decide) ?_
      refine lv_istore_n (lv' := [(2, .int (Int32.ofInt 0)), (1, .int (Int32.ofInt 0)), (0, .ref (A 9))]) hx hb (by decide +kernel : decode cX5_usage 24 = .ok (.istore_n 2, 1)) rfl hl (by decide) rfl (fun ls hl => ?_)
      have hS1 : σ1 65 1 = S 1 := by rw [h65]
      have hS00 : σ1 65 0 = S 0 := by rw [h65]
      -- behind the loop
      have fin : ∀ (H : Heap) (locs : List Loc) (ls : Array Slot), zAt A A0 D cI cQ s.heap H locs σ1 → lv_has ls 3 [(1, .int (Int32.ofInt (aw S))), (0, .ref (A 9))] → W p l e zRu (s.setDrawn s.drawn) mid #[.ref (A 9)] below meth c H locs 0 0 (MQD lw_cs below (zDPost D A cI cQ s.heap.size σ σ1 (usP S)) #[.ref (A 9)] s 0 0 A0) (F0 mid 50 ls []) := by
        intro H locs ls hat hl
        obtain ⟨m, em, hm⟩ := s87 (σ := σ1) hG1 (B := B) (by rw [h65]; exact v3) (by omega)
        rw [h65] at hm
        obtain ⟨m0, m1, m2⟩ := gend hG v3 hm
        refine lv_iload_n hx hb (by decide +kernel : decode cX5_usage 50 = .ok (.iload_n 1, 1)) rfl (lv_at hl 0 rfl) ?_
        refine lv_i2d hx hb (by decide +kernel : decode cX5_usage 51 = .ok (.i2d, 1)) ?_
        refine lv_aload_n hx hb (by decide +kernel : decode cX5_usage 52 = .ok (.aload_n 0, 1)) rfl (lv_at hl 1 rfl) ?_
        refine zu_get (k := 9) (ci := 6) (j := 1) S0 rfl (by decide) rfl (by decide) rfl zin_6 zqv_2 hK0 hat (by decide +kernel : decode cX5_usage 53 = .ok (.getfield 7, 3)) ?_
        refine lv_iconst (v := Int32.ofInt ((0 : Nat) : Int)) hx hb (by decide +kernel : decode cX5_usage 56 = .ok (.iconst 0, 1)) (by decide) ?_
        refine zu_iald (k := 65) (j := 0) S0 (by decide) (by decide) (by decide) (by decide) hK0 hat (by decide +kernel : decode cX5_usage 57 = .ok (.iaload, 1)) (by decide) ?_
        rw [hS00]
        refine lv_aload_n hx hb (by decide +kernel : decode cX5_usage 58 = .ok (.aload_n 0, 1)) rfl (lv_at hl 1 rfl) ?_
        refine zu_V (k := 9) (ci := 6) (n := 0) (m := 87) (as := []) (rest := [.int (Int32.ofInt (S 0)), .double (FP.i2d (Int32.ofInt (aw S)))]) S0 (zcon0 l em zMk_87 (Nat.le_of_ble_eq_true rfl) hσ1) (by decide) rfl rfl zqv_6 zqv_i4 zqv_s4 zMk_87 (by decide +kernel) rfl (by decide +kernel) (by decide +kernel) hl.1 (Nat.le_of_ble_eq_true rfl) (by decide +kernel : decode cX5_usage 59 = .ok (.invokevirtual 151, 3)) hK0 hN0 hat hA (fun H5 locs5 hat hok hvs => ?_)
        refine lv_imul hx hb (by decide +kernel : decode cX5_usage 62 = .ok (.imul, 1)) ?_
        rw [← Int32.ofInt_mul]
        refine lv_i2d hx hb (by decide +kernel : decode cX5_usage 63 = .ok (.i2d, 1)) ?_
        refine lv_ddiv_any hd0 lw_bits hx hb (by decide +kernel : decode cX5_usage 64 = .ok (.ddiv, 1)) (fun r d1 hal hd1 => ?_)
        refine W.endD hd1 ?_
        exact W.dret hx hb hr (fun t ht hW => ⟨⟨⟨r, rfl, fun _ => ⟨m, hm, hal⟩, fun z => absurd ⟨c3, hno⟩ z⟩, by rw [ht]; exact hat.1⟩, by rw [hAe]; exact hat.2.2.F ht⟩) hat.2.2.2.2 (by decide +kernel : decode cX5_usage 65 = .ok (.dreturn, 1)) hlk
      -- the loop
      have loop : ∀ (n j : Nat) (H : Heap) (locs : List Loc) (ls : Array Slot), j + n = nJ S → zAt A A0 D cI cQ s.heap H locs σ1 → lv_has ls 3 [(2, .int (Int32.ofInt (j : Int))), (1, .int (Int32.ofInt (f1 (fun j a => zw (a + wkS S j)) j 0))), (0, .ref (A 9))] → W p l e zRu (s.setDrawn s.drawn) mid #[.ref (A 9)] below meth c H locs 0 0 (MQD lw_cs below (zDPost D A cI cQ s.heap.size σ σ1 (usP S)) #[.ref (A 9)] s 0 0 A0) (F0 mid 25 ls []) := by
        intro n
        induction n with
        | zero =>
          intro j H locs ls hj hat hl
          obtain rfl : j = nJ S := by omega
          refine lv_iload_n hx hb (by decide +kernel : decode cX5_usage 25 = .ok (.iload_n 2, 1)) rfl (lv_at hl 0 rfl) ?_
          refine lv_aload_n hx hb (by decide +kernel : decode cX5_usage 26 = .ok (.aload_n 0, 1)) rfl (lv_at hl 2 rfl) ?_
          refine zu_get (k := 9) (ci := 6) (j := 1) S0 rfl (by decide) rfl (by decide) rfl zin_6 zqv_2 hK0 hat (by decide +kernel : decode cX5_usage 27 = .ok (.getfield 7, 3)) ?_
          refine lv_iconst (v := Int32.ofInt ((1 : Nat) : Int)) hx hb (by decide +kernel : decode cX5_usage 30 = .ok (.iconst 1, 1)) (by decide) ?_
          refine zu_iald (k := 65) (j := 1) S0 (by decide) (by decide) (by decide) (by decide) hK0 hat (by decide +kernel : decode cX5_usage 31 = .ok (.iaload, 1)) (by decide) ?_
          rw [hS1]
          have e1 : (nJ S : Int) = S 1 := by unfold nJ; omega
          refine lv_icmp_ge (tgt := 50) hx hb (by decide +kernel : decode cX5_usage 32 = .ok (.if_icmp .ge 18, 3)) (by decide) (fun _ => ?_) (fun q => absurd (by rw [e1]; exact Int32.le_refl _) q)
          exact fin H locs ls hat (lv_sub hl [1, 2] rfl)
        | succ n ih =>
          intro j H locs ls hj hat hl
          have hjl : (j : Int) < S 1 := nJ_lt.mp (by omega)
          have hj6 := hG.j6 hjl
          refine lv_iload_n hx hb (by decide +kernel : decode cX5_usage 25 = .ok (.iload_n 2, 1)) rfl (lv_at hl 0 rfl) ?_
          refine lv_aload_n hx hb (by decide +kernel : decode cX5_usage 26 = .ok (.aload_n 0, 1)) rfl (lv_at hl 2 rfl) ?_
          refine zu_get (k := 9) (ci := 6) (j := 1) S0 rfl (by decide) rfl (by decide) rfl zin_6 zqv_2 hK0 hat (by decide +kernel : decode cX5_usage 27 = .ok (.getfield 7, 3)) ?_
          refine lv_iconst (v := Int32.ofInt ((1 : Nat) : Int)) hx hb (by decide +kernel : decode cX5_usage 30 = .ok (.iconst 1, 1)) (by decide) ?_
          refine zu_iald (k := 65) (j := 1) S0 (by decide) (by decide) (by decide) (by decide) hK0 hat (by decide +kernel : decode cX5_usage 31 = .ok (.iaload, 1)) (by decide) ?_
          rw [hS1]
          refine lv_icmp_ge (tgt := 50) hx hb (by decide +kernel : decode cX5_usage 32 = .ok (.if_icmp .ge 18, 3)) (by decide) (fun q => absurd ((zof_le ⟨by omega, by omega⟩ ⟨by omega, by omega⟩).mp q) (by omega)) (fun _ => ?_)
          refine lv_iload_n hx hb (by decide +kernel : decode cX5_usage 35 = .ok (.iload_n 1, 1)) rfl (lv_at hl 1 rfl) ?_
          refine lv_aload_n hx hb (by decide +kernel : decode cX5_usage 36 = .ok (.aload_n 0, 1)) rfl (lv_at hl 2 rfl) ?_
          refine lv_iload_n hx hb (by decide +kernel : decode cX5_usage 37 = .ok (.iload_n 2, 1)) rfl (lv_at hl 0 rfl) ?_
          refine lv_iconst (v := Int32.ofInt 3) hx hb (by decide +kernel : decode cX5_usage 38 = .ok (.iconst 3, 1)) (by decide) ?_
          have e81 := s81 (σ := σ1) hG1 (j := j) (by rw [h65]; exact hjl) (k := 3) (by decide)
          rw [h65, jbV_3] at e81
          refine zu_V (k := 9) (ci := 6) (n := 2) (m := 81) (as := [zI (j : Int), zI 3]) (rest := [.int (Int32.ofInt (f1 (fun j a => zw (a + wkS S j)) j 0))]) S0 (zE_con l e81 zMk_81 (Nat.le_of_ble_eq_true rfl) (zEas (zok2 ⟨by omega, by omega⟩ ⟨by decide, by decide⟩)) hσ1) (by decide) rfl rfl zqv_5 zqv_i3 zqv_s3 zMk_81 (by decide +kernel) rfl (by decide +kernel) (by decide +kernel) hl.1 (Nat.le_of_ble_eq_true rfl) (by decide +kernel : decode cX5_usage 39 = .ok (.invokevirtual 138, 3)) hK0 hN0 hat hA (fun H5 locs5 hat hok hvs => ?_)
          refine lv_iadd hx hb (by decide +kernel : decode cX5_usage 42 = .ok (.iadd, 1)) ?_
          rw [← Int32.ofInt_add, ← zof_zw]
          refine lv_istore_n (lv' := [(1, .int (Int32.ofInt (f1 (fun j a => zw (a + wkS S j)) (j + 1) 0))), (2, .int (Int32.ofInt (j : Int))), (0, .ref (A 9))]) hx hb (by decide +kernel : decode cX5_usage 43 = .ok (.istore_n 1, 1)) rfl hl (by decide) rfl (fun ls hl => ?_)
          refine lv_iinc (v := Int32.ofInt ((j + 1 : Nat) : Int)) (lv' := [(2, .int (Int32.ofInt ((j + 1 : Nat) : Int))), (1, .int (Int32.ofInt (f1 (fun j a => zw (a + wkS S j)) (j + 1) 0))), (0, .ref (A 9))]) hx hb (by decide +kernel : decode cX5_usage 44 = .ok (.iinc 2 1, 3)) hl (k := 1) rfl (by rw [← Int32.ofInt_add]; rfl) (by decide) rfl (fun ls hl => ?_)
          refine lv_goto (tgt := 25) hx hb (by decide +kernel : decode cX5_usage 47 = .ok (.goto (-22), 3)) (by decide) ?_
          exact ih (j + 1) _ _ ls (by omega) hat hl
      exact loop (nJ S) 0 _ _ ls (by omega) hat hl
    · have hno : opn S = 0 := (zof_eq0 ro).mp c1
      exact zer _ _ ls hat (fun q => q.2 hno)
