/-! ===== 77: the five constructors (written by a program, but its head) ===== -/
/-- a new shop and its rows -/
def zShw (cI : ClassId) (h : Nat) (a : Nat → Nat) : va_W := (h, .inr (3, [.int 3, .int 0, .ref (a 0), .ref (a 1), .ref (a 2), .ref (a 3), .ref (a 4), .int 0, .ref (a 5), .ref (a 6), .ref (a 7), .int 0, .ref (a 8), .ref (a 9), .int 0])) :: [(a 0, .inl (cI, 6, .inl (fun _ => 0))), (a 1, .inl (cI, 6, .inl (fun _ => 0))), (a 2, .inl (cI, 6, .inl (fun _ => 0))), (a 3, .inl (cI, 30, .inl (fun _ => 0))), (a 4, .inl (cI, 30, .inl (fun _ => 0))), (a 5, .inl (cI, 6, .inl (fun _ => 0))), (a 6, .inl (cI, 6, .inl (fun _ => 0))), (a 7, .inl (cI, 6, .inl (fun _ => 0))), (a 8, .inl (cI, 30, .inl (fun _ => 0))), (a 9, .inl (cI, 30, .inl (fun _ => 0)))]
def zPlw (cI : ClassId) (h sh : Nat) (a : Nat → Nat) (d st fr : Nat) : va_W := (h, .inr (2, [.ref sh, .ref d, .ref st, .ref fr])) :: (((zShw cI sh a ++ [(d, .inl (cI, 30, .inl (fun _ => 0)))]) ++ [(st, .inl (cI, 6, .inl (fun _ => 0)))]) ++ [(fr, .inl (cI, 5, .inl (fun _ => 0)))])
def zHiw (cI cQ : ClassId) (h st : Nat) (f : Nat → Option Nat) (s0 s1 s2 s3 : Nat) (a0 a1 a2 a3 : Nat → Nat) : va_W := (h, .inr (0, [.ref st, .int 0, .int 0])) :: (st, .inl (cQ, 4, .inr (.inr (.inr (.inr f))))) :: (((zShw cI s0 a0 ++ zShw cI s1 a1) ++ zShw cI s2 a2) ++ zShw cI s3 a3)
def zTxw (cI : ClassId) (h by' : Nat) : va_W := [(h, .inr (1, [.ref by', .int 0, .int 0, .int (-1), .int 0, .int 0, .int 0, .int 0])), (by', .inl (cI, 100, .inl (fun _ => 0)))]
theorem zk_newq {p : Program} {l : Launch} {en : Env} {R : Room} {s : State} {mid : MethodId} {args : Array Value} {below : List Frame} {meth : Method} {c : Code} {H : Heap} {locs : List Loc} {cells slots : Nat} {Q : State → Prop} {A0 : Nat → Prop} {D : va_G} {cI cQ : ClassId} {cc : ByteArray} {nL pc idx : Nat} {ls : Array Slot} {own : String} {rest : List Value} {ws : va_W} (S : CallFix p mid c cc nL s args zWL own) (hcl : Cond.classLink own idx RX3 ∈ zWL) (hO : va_AO RX3 s) (hK : va_K D zcls (ztys cI cQ) s) (hP : va_P D zcls ws H) (hD : va_D A0 ws) (hS : va_S A0 s.heap H locs) (hA : ∀ q : Nat, s.heap.size ≤ q → A0 q) {n : Int32} {N : Nat} (hn : ¬ n < 0) (hN : n.toNatClampNeg = N) (hN2 : N ≤ 1000) (hcells : cells + 1 ≤ R.cells) (hslots : slots + N ≤ R.slots) (hdg : decode cc pc = .ok (.anewarray idx, 3))
    (kk : ∀ (q : Nat) (H1 : Heap), va_P D zcls (ws ++ [(q, .inl (cQ, N, .inr (.inr (.inr (.inr (fun _ => none))))))]) H1 → va_D A0 (ws ++ [(q, .inl (cQ, N, .inr (.inr (.inr (.inr (fun _ => none))))))]) → va_S A0 s.heap H1 locs → W p l en R s mid args below meth c H1 locs (cells + 1) (slots + N) Q (F0 mid (pc + 3) ls (.ref q :: rest))) : W p l en R s mid args below meth c H locs cells slots Q (F0 mid pc ls (.int n :: rest)) := by
  refine va_newq S.1 S.2.1 S.2.2.2.1 (S.2.2.2.2 _ hcl) hO hK hP hD hS hA hn hN (by omega) hcells hslots hdg (fun q cA H1 hK2 hP2 hD2 hS2 => ?_)
  obtain ⟨k1, c1, _, _, _, e1⟩ := (hK.2 1 (cQ, .object RX3) rfl).2
  obtain ⟨k2, c2, _, _, _, e2⟩ := (hK2.2 2 (cA, .object RX3) rfl).2
  obtain rfl : cQ = cA := Option.some.inj (e1.symm.trans e2)
  exact kk q H1 hP2 hD2 hS2
theorem zdef_3 : ∀ j, j < 15 → defaultValue (tyX3 j) = vp_V [.int 0, .int 0, .null, .null, .null, .null, .null, .int 0, .null, .null, .null, .int 0, .null, .null, .int 0] j := by
  intro j hj
  rcases (show j = 0 ∨ j = 1 ∨ j = 2 ∨ j = 3 ∨ j = 4 ∨ j = 5 ∨ j = 6 ∨ j = 7 ∨ j = 8 ∨ j = 9 ∨ j = 10 ∨ j = 11 ∨ j = 12 ∨ j = 13 ∨ j = 14 by omega) with rfl | rfl | rfl | rfl | rfl | rfl | rfl | rfl | rfl | rfl | rfl | rfl | rfl | rfl | rfl <;> rfl
theorem zvpin {i : Int32} {n : Nat} (h : (decide (i < 0) || decide (n ≤ i.toNatClampNeg)) = false) : vp_in i n := by
  unfold vp_in
  simp only [Bool.or_eq_false_iff, decide_eq_false_iff_not] at h
  exact fun q => q.elim h.1 h.2
theorem zdef_2 : ∀ j, j < 4 → defaultValue (tyX2 j) = vp_V [.null, .null, .null, .null] j := by
  intro j hj
  rcases (show j = 0 ∨ j = 1 ∨ j = 2 ∨ j = 3 by omega) with rfl | rfl | rfl | rfl <;> rfl
theorem zdef_0 : ∀ j, j < 3 → defaultValue (tyX0 j) = vp_V [.null, .int 0, .int 0] j := by
  intro j hj
  rcases (show j = 0 ∨ j = 1 ∨ j = 2 by omega) with rfl | rfl | rfl <;> rfl
theorem zdef_1 : ∀ j, j < 8 → defaultValue (tyX1 j) = vp_V [.null, .int 0, .int 0, .int 0, .int 0, .int 0, .int 0, .int 0] j := by
  intro j hj
  rcases (show j = 0 ∨ j = 1 ∨ j = 2 ∨ j = 3 ∨ j = 4 ∨ j = 5 ∨ j = 6 ∨ j = 7 by omega) with rfl | rfl | rfl | rfl | rfl | rfl | rfl | rfl <;> rfl
theorem zdef_4 : ∀ j, j < 4 → defaultValue (tyX4 j) = vp_V [.null, .null, .null, .null] j := by
  intro j hj
  rcases (show j = 0 ∨ j = 1 ∨ j = 2 ∨ j = 3 by omega) with rfl | rfl | rfl | rfl <;> rfl
theorem zkw_0 : Cond.methodLink RX3 3 objectInit ∈ zWL := zwl 77 (by decide +kernel) rfl
theorem zkw_1 : Cond.fieldLink RX3 9 RX3 "weight" "[I" ∈ zWL := zwl 83 (by decide +kernel) rfl
theorem zkw_2 : Cond.fieldLink RX3 15 RX3 "due" "[I" ∈ zWL := zwl 86 (by decide +kernel) rfl
theorem zkw_3 : Cond.fieldLink RX3 18 RX3 "operations" "[I" ∈ zWL := zwl 89 (by decide +kernel) rfl
theorem zkw_4 : Cond.fieldLink RX3 21 RX3 "machine" "[I" ∈ zWL := zwl 92 (by decide +kernel) rfl
theorem zkw_5 : Cond.fieldLink RX3 24 RX3 "duration" "[I" ∈ zWL := zwl 95 (by decide +kernel) rfl
theorem zkw_6 : Cond.fieldLink RX3 27 RX3 "brokenMachine" "[I" ∈ zWL := zwl 100 (by decide +kernel) rfl
theorem zkw_7 : Cond.fieldLink RX3 30 RX3 "brokenFrom" "[I" ∈ zWL := zwl 101 (by decide +kernel) rfl
theorem zkw_8 : Cond.fieldLink RX3 33 RX3 "brokenFor" "[I" ∈ zWL := zwl 102 (by decide +kernel) rfl
theorem zkw_9 : Cond.fieldLink RX3 36 RX3 "old" "[I" ∈ zWL := zwl 105 (by decide +kernel) rfl
theorem zkw_10 : Cond.fieldLink RX3 39 RX3 "present" "[I" ∈ zWL := zwl 108 (by decide +kernel) rfl
theorem zkw_11 : Cond.fieldLink RX3 42 RX3 "machines" "I" ∈ zWL := zwl 78 (by decide +kernel) rfl
theorem k_3 (l : Launch) (D : va_G) (cI cQ : ClassId) (h0 : Nat) : zKCon l D cI cQ yX3_init cX3_init 1 h0 (.inr (3, [.int 0, .int 0, .null, .null, .null, .null, .null, .int 0, .null, .null, .null, .int 0, .null, .null, .int 0])) { frames := 1, cells := 10, slots := 156, locals := 12 } (fun w => ∃ a, w = zShw cI h0 a) := by
  refine zKCon_of (own := RX3) (by decide +kernel) rfl rfl (by decide) (fun p en s mid args below meth c hX ls hl => ?_)
  obtain ⟨S, hr, hlk, hN, hO, hK, hP, hD, hin⟩ := id hX
  have hx := S.1
  have hb := S.2.1
  have hown := S.2.2.2.1
  have hts := S.2.2.2.2
  have hS : va_S (va_A [(h0, .inr (3, [.int 0, .int 0, .null, .null, .null, .null, .null, .int 0, .null, .null, .null, .int 0, .null, .null, .int 0]))] s.heap.size) s.heap s.heap [] := va_S.rf
  have hA : ∀ q : Nat, s.heap.size ≤ q → va_A [(h0, .inr (3, [.int 0, .int 0, .null, .null, .null, .null, .null, .int 0, .null, .null, .null, .int 0, .null, .null, .int 0]))] s.heap.size q := fun q h => Or.inr h
  refine lv_aload_n hx hb (by decide +kernel : decode cX3_init 0 = .ok (.aload_n 0, 1)) rfl (lv_at hl 0 rfl) ?_
  refine W.objInit hx hb hown (hts _ zkw_0) (hts _ zko1) (hts _ zko2) rfl (by rw [S.2.2.1]; exact hl.1) rfl (by decide +kernel : decode cX3_init 1 = .ok (.invokespecial 3, 3)) (Nat.le_of_ble_eq_true rfl) (Nat.le_of_ble_eq_true rfl) ?_
  refine lv_aload_n hx hb (by decide +kernel : decode cX3_init 4 = .ok (.aload_n 0, 1)) rfl (lv_at hl 0 rfl) ?_
  refine lv_bipush (v := 6) hx hb (by decide +kernel : decode cX3_init 5 = .ok (.bipush 6, 2)) (by decide) ?_
  refine zk_newa (N := 6) S hK hP hD hS hA (by decide) (by decide) (by decide) (Nat.le_of_ble_eq_true rfl) (Nat.le_of_ble_eq_true rfl) (by decide +kernel : decode cX3_init 7 = .ok (.newarray .int, 2)) (fun q0 H hP hD hS => ?_)
  have hP : va_P D zcls ([(h0, .inr (3, [.int 0, .int 0, .null, .null, .null, .null, .null, .int 0, .null, .null, .null, .int 0, .null, .null, .int 0])), (q0, .inl (cI, 6, .inl (fun _ => 0)))]) H := hP
  have hD : va_D _ ([(h0, .inr (3, [.int 0, .int 0, .null, .null, .null, .null, .null, .int 0, .null, .null, .null, .int 0, .null, .null, .int 0])), (q0, .inl (cI, 6, .inl (fun _ => 0)))]) := hD
  refine va_putF (ci := 3) (v := .ref q0) (ty := .array .int) hx hb hts zin_4 tyX3 tyX3_ok nmX3 hown hK hP hD hS 0 rfl rfl 2 (by decide) (hts _ zkw_1) (fun _ h9 => h9) rfl hin rfl (by decide +kernel) rfl rfl (Nat.le_of_ble_eq_true rfl) (by decide +kernel : decode cX3_init 9 = .ok (.putfield 9, 3)) (fun H locs hP hD hS => ?_)
  have hP : va_P D zcls ([(h0, .inr (3, [.int 0, .int 0, .ref q0, .null, .null, .null, .null, .int 0, .null, .null, .null, .int 0, .null, .null, .int 0])), (q0, .inl (cI, 6, .inl (fun _ => 0)))]) H := hP
  have hD : va_D _ ([(h0, .inr (3, [.int 0, .int 0, .ref q0, .null, .null, .null, .null, .int 0, .null, .null, .null, .int 0, .null, .null, .int 0])), (q0, .inl (cI, 6, .inl (fun _ => 0)))]) := hD
  refine lv_aload_n hx hb (by decide +kernel : decode cX3_init 12 = .ok (.aload_n 0, 1)) rfl (lv_at hl 0 rfl) ?_
  refine lv_bipush (v := 6) hx hb (by decide +kernel : decode cX3_init 13 = .ok (.bipush 6, 2)) (by decide) ?_
  refine zk_newa (N := 6) S hK hP hD hS hA (by decide) (by decide) (by decide) (Nat.le_of_ble_eq_true rfl) (Nat.le_of_ble_eq_true rfl) (by decide +kernel : decode cX3_init 15 = .ok (.newarray .int, 2)) (fun q1 H hP hD hS => ?_)
  have hP : va_P D zcls ([(h0, .inr (3, [.int 0, .int 0, .ref q0, .null, .null, .null, .null, .int 0, .null, .null, .null, .int 0, .null, .null, .int 0])), (q0, .inl (cI, 6, .inl (fun _ => 0))), (q1, .inl (cI, 6, .inl (fun _ => 0)))]) H := hP
  have hD : va_D _ ([(h0, .inr (3, [.int 0, .int 0, .ref q0, .null, .null, .null, .null, .int 0, .null, .null, .null, .int 0, .null, .null, .int 0])), (q0, .inl (cI, 6, .inl (fun _ => 0))), (q1, .inl (cI, 6, .inl (fun _ => 0)))]) := hD
  refine va_putF (ci := 3) (v := .ref q1) (ty := .array .int) hx hb hts zin_4 tyX3 tyX3_ok nmX3 hown hK hP hD hS 0 rfl rfl 3 (by decide) (hts _ zkw_2) (fun _ h9 => h9) rfl hin rfl (by decide +kernel) rfl rfl (Nat.le_of_ble_eq_true rfl) (by decide +kernel : decode cX3_init 17 = .ok (.putfield 15, 3)) (fun H locs hP hD hS => ?_)
  have hP : va_P D zcls ([(h0, .inr (3, [.int 0, .int 0, .ref q0, .ref q1, .null, .null, .null, .int 0, .null, .null, .null, .int 0, .null, .null, .int 0])), (q0, .inl (cI, 6, .inl (fun _ => 0))), (q1, .inl (cI, 6, .inl (fun _ => 0)))]) H := hP
  have hD : va_D _ ([(h0, .inr (3, [.int 0, .int 0, .ref q0, .ref q1, .null, .null, .null, .int 0, .null, .null, .null, .int 0, .null, .null, .int 0])), (q0, .inl (cI, 6, .inl (fun _ => 0))), (q1, .inl (cI, 6, .inl (fun _ => 0)))]) := hD
  refine lv_aload_n hx hb (by decide +kernel : decode cX3_init 20 = .ok (.aload_n 0, 1)) rfl (lv_at hl 0 rfl) ?_
  refine lv_bipush (v := 6) hx hb (by decide +kernel : decode cX3_init 21 = .ok (.bipush 6, 2)) (by decide) ?_
  refine zk_newa (N := 6) S hK hP hD hS hA (by decide) (by decide) (by decide) (Nat.le_of_ble_eq_true rfl) (Nat.le_of_ble_eq_true rfl) (by decide +kernel : decode cX3_init 23 = .ok (.newarray .int, 2)) (fun q2 H hP hD hS => ?_)
  have hP : va_P D zcls ([(h0, .inr (3, [.int 0, .int 0, .ref q0, .ref q1, .null, .null, .null, .int 0, .null, .null, .null, .int 0, .null, .null, .int 0])), (q0, .inl (cI, 6, .inl (fun _ => 0))), (q1, .inl (cI, 6, .inl (fun _ => 0))), (q2, .inl (cI, 6, .inl (fun _ => 0)))]) H := hP
  have hD : va_D _ ([(h0, .inr (3, [.int 0, .int 0, .ref q0, .ref q1, .null, .null, .null, .int 0, .null, .null, .null, .int 0, .null, .null, .int 0])), (q0, .inl (cI, 6, .inl (fun _ => 0))), (q1, .inl (cI, 6, .inl (fun _ => 0))), (q2, .inl (cI, 6, .inl (fun _ => 0)))]) := hD
  refine va_putF (ci := 3) (v := .ref q2) (ty := .array .int) hx hb hts zin_4 tyX3 tyX3_ok nmX3 hown hK hP hD hS 0 rfl rfl 4 (by decide) (hts _ zkw_3) (fun _ h9 => h9) rfl hin rfl (by decide +kernel) rfl rfl (Nat.le_of_ble_eq_true rfl) (by decide +kernel : decode cX3_init 25 = .ok (.putfield 18, 3)) (fun H locs hP hD hS => ?_)
  have hP : va_P D zcls ([(h0, .inr (3, [.int 0, .int 0, .ref q0, .ref q1, .ref q2, .null, .null, .int 0, .null, .null, .null, .int 0, .null, .null, .int 0])), (q0, .inl (cI, 6, .inl (fun _ => 0))), (q1, .inl (cI, 6, .inl (fun _ => 0))), (q2, .inl (cI, 6, .inl (fun _ => 0)))]) H := hP
  have hD : va_D _ ([(h0, .inr (3, [.int 0, .int 0, .ref q0, .ref q1, .ref q2, .null, .null, .int 0, .null, .null, .null, .int 0, .null, .null, .int 0])), (q0, .inl (cI, 6, .inl (fun _ => 0))), (q1, .inl (cI, 6, .inl (fun _ => 0))), (q2, .inl (cI, 6, .inl (fun _ => 0)))]) := hD
  refine lv_aload_n hx hb (by decide +kernel : decode cX3_init 28 = .ok (.aload_n 0, 1)) rfl (lv_at hl 0 rfl) ?_
  refine lv_bipush (v := 30) hx hb (by decide +kernel : decode cX3_init 29 = .ok (.bipush 30, 2)) (by decide) ?_
  refine zk_newa (N := 30) S hK hP hD hS hA (by decide) (by decide) (by decide) (Nat.le_of_ble_eq_true rfl) (Nat.le_of_ble_eq_true rfl) (by decide +kernel : decode cX3_init 31 = .ok (.newarray .int, 2)) (fun q3 H hP hD hS => ?_)
  have hP : va_P D zcls ([(h0, .inr (3, [.int 0, .int 0, .ref q0, .ref q1, .ref q2, .null, .null, .int 0, .null, .null, .null, .int 0, .null, .null, .int 0])), (q0, .inl (cI, 6, .inl (fun _ => 0))), (q1, .inl (cI, 6, .inl (fun _ => 0))), (q2, .inl (cI, 6, .inl (fun _ => 0))), (q3, .inl (cI, 30, .inl (fun _ => 0)))]) H := hP
  have hD : va_D _ ([(h0, .inr (3, [.int 0, .int 0, .ref q0, .ref q1, .ref q2, .null, .null, .int 0, .null, .null, .null, .int 0, .null, .null, .int 0])), (q0, .inl (cI, 6, .inl (fun _ => 0))), (q1, .inl (cI, 6, .inl (fun _ => 0))), (q2, .inl (cI, 6, .inl (fun _ => 0))), (q3, .inl (cI, 30, .inl (fun _ => 0)))]) := hD
  refine va_putF (ci := 3) (v := .ref q3) (ty := .array .int) hx hb hts zin_4 tyX3 tyX3_ok nmX3 hown hK hP hD hS 0 rfl rfl 5 (by decide) (hts _ zkw_4) (fun _ h9 => h9) rfl hin rfl (by decide +kernel) rfl rfl (Nat.le_of_ble_eq_true rfl) (by decide +kernel : decode cX3_init 33 = .ok (.putfield 21, 3)) (fun H locs hP hD hS => ?_)
  have hP : va_P D zcls ([(h0, .inr (3, [.int 0, .int 0, .ref q0, .ref q1, .ref q2, .ref q3, .null, .int 0, .null, .null, .null, .int 0, .null, .null, .int 0])), (q0, .inl (cI, 6, .inl (fun _ => 0))), (q1, .inl (cI, 6, .inl (fun _ => 0))), (q2, .inl (cI, 6, .inl (fun _ => 0))), (q3, .inl (cI, 30, .inl (fun _ => 0)))]) H := hP
  have hD : va_D _ ([(h0, .inr (3, [.int 0, .int 0, .ref q0, .ref q1, .ref q2, .ref q3, .null, .int 0, .null, .null, .null, .int 0, .null, .null, .int 0])), (q0, .inl (cI, 6, .inl (fun _ => 0))), (q1, .inl (cI, 6, .inl (fun _ => 0))), (q2, .inl (cI, 6, .inl (fun _ => 0))), (q3, .inl (cI, 30, .inl (fun _ => 0)))]) := hD
  refine lv_aload_n hx hb (by decide +kernel : decode cX3_init 36 = .ok (.aload_n 0, 1)) rfl (lv_at hl 0 rfl) ?_
  refine lv_bipush (v := 30) hx hb (by decide +kernel : decode cX3_init 37 = .ok (.bipush 30, 2)) (by decide) ?_
  refine zk_newa (N := 30) S hK hP hD hS hA (by decide) (by decide) (by decide) (Nat.le_of_ble_eq_true rfl) (Nat.le_of_ble_eq_true rfl) (by decide +kernel : decode cX3_init 39 = .ok (.newarray .int, 2)) (fun q4 H hP hD hS => ?_)
  have hP : va_P D zcls ([(h0, .inr (3, [.int 0, .int 0, .ref q0, .ref q1, .ref q2, .ref q3, .null, .int 0, .null, .null, .null, .int 0, .null, .null, .int 0])), (q0, .inl (cI, 6, .inl (fun _ => 0))), (q1, .inl (cI, 6, .inl (fun _ => 0))), (q2, .inl (cI, 6, .inl (fun _ => 0))), (q3, .inl (cI, 30, .inl (fun _ => 0))), (q4, .inl (cI, 30, .inl (fun _ => 0)))]) H := hP
  have hD : va_D _ ([(h0, .inr (3, [.int 0, .int 0, .ref q0, .ref q1, .ref q2, .ref q3, .null, .int 0, .null, .null, .null, .int 0, .null, .null, .int 0])), (q0, .inl (cI, 6, .inl (fun _ => 0))), (q1, .inl (cI, 6, .inl (fun _ => 0))), (q2, .inl (cI, 6, .inl (fun _ => 0))), (q3, .inl (cI, 30, .inl (fun _ => 0))), (q4, .inl (cI, 30, .inl (fun _ => 0)))]) := hD
  refine va_putF (ci := 3) (v := .ref q4) (ty := .array .int) hx hb hts zin_4 tyX3 tyX3_ok nmX3 hown hK hP hD hS 0 rfl rfl 6 (by decide) (hts _ zkw_5) (fun _ h9 => h9) rfl hin rfl (by decide +kernel) rfl rfl (Nat.le_of_ble_eq_true rfl) (by decide +kernel : decode cX3_init 41 = .ok (.putfield 24, 3)) (fun H locs hP hD hS => ?_)
  have hP : va_P D zcls ([(h0, .inr (3, [.int 0, .int 0, .ref q0, .ref q1, .ref q2, .ref q3, .ref q4, .int 0, .null, .null, .null, .int 0, .null, .null, .int 0])), (q0, .inl (cI, 6, .inl (fun _ => 0))), (q1, .inl (cI, 6, .inl (fun _ => 0))), (q2, .inl (cI, 6, .inl (fun _ => 0))), (q3, .inl (cI, 30, .inl (fun _ => 0))), (q4, .inl (cI, 30, .inl (fun _ => 0)))]) H := hP
  have hD : va_D _ ([(h0, .inr (3, [.int 0, .int 0, .ref q0, .ref q1, .ref q2, .ref q3, .ref q4, .int 0, .null, .null, .null, .int 0, .null, .null, .int 0])), (q0, .inl (cI, 6, .inl (fun _ => 0))), (q1, .inl (cI, 6, .inl (fun _ => 0))), (q2, .inl (cI, 6, .inl (fun _ => 0))), (q3, .inl (cI, 30, .inl (fun _ => 0))), (q4, .inl (cI, 30, .inl (fun _ => 0)))]) := hD
  refine lv_aload_n hx hb (by decide +kernel : decode cX3_init 44 = .ok (.aload_n 0, 1)) rfl (lv_at hl 0 rfl) ?_
  refine lv_bipush (v := 6) hx hb (by decide +kernel : decode cX3_init 45 = .ok (.bipush 6, 2)) (by decide) ?_
  refine zk_newa (N := 6) S hK hP hD hS hA (by decide) (by decide) (by decide) (Nat.le_of_ble_eq_true rfl) (Nat.le_of_ble_eq_true rfl) (by decide +kernel : decode cX3_init 47 = .ok (.newarray .int, 2)) (fun q5 H hP hD hS => ?_)
  have hP : va_P D zcls ([(h0, .inr (3, [.int 0, .int 0, .ref q0, .ref q1, .ref q2, .ref q3, .ref q4, .int 0, .null, .null, .null, .int 0, .null, .null, .int 0])), (q0, .inl (cI, 6, .inl (fun _ => 0))), (q1, .inl (cI, 6, .inl (fun _ => 0))), (q2, .inl (cI, 6, .inl (fun _ => 0))), (q3, .inl (cI, 30, .inl (fun _ => 0))), (q4, .inl (cI, 30, .inl (fun _ => 0))), (q5, .inl (cI, 6, .inl (fun _ => 0)))]) H := hP
  have hD : va_D _ ([(h0, .inr (3, [.int 0, .int 0, .ref q0, .ref q1, .ref q2, .ref q3, .ref q4, .int 0, .null, .null, .null, .int 0, .null, .null, .int 0])), (q0, .inl (cI, 6, .inl (fun _ => 0))), (q1, .inl (cI, 6, .inl (fun _ => 0))), (q2, .inl (cI, 6, .inl (fun _ => 0))), (q3, .inl (cI, 30, .inl (fun _ => 0))), (q4, .inl (cI, 30, .inl (fun _ => 0))), (q5, .inl (cI, 6, .inl (fun _ => 0)))]) := hD
  refine va_putF (ci := 3) (v := .ref q5) (ty := .array .int) hx hb hts zin_4 tyX3 tyX3_ok nmX3 hown hK hP hD hS 0 rfl rfl 8 (by decide) (hts _ zkw_6) (fun _ h9 => h9) rfl hin rfl (by decide +kernel) rfl rfl (Nat.le_of_ble_eq_true rfl) (by decide +kernel : decode cX3_init 49 = .ok (.putfield 27, 3)) (fun H locs hP hD hS => ?_)
  have hP : va_P D zcls ([(h0, .inr (3, [.int 0, .int 0, .ref q0, .ref q1, .ref q2, .ref q3, .ref q4, .int 0, .ref q5, .null, .null, .int 0, .null, .null, .int 0])), (q0, .inl (cI, 6, .inl (fun _ => 0))), (q1, .inl (cI, 6, .inl (fun _ => 0))), (q2, .inl (cI, 6, .inl (fun _ => 0))), (q3, .inl (cI, 30, .inl (fun _ => 0))), (q4, .inl (cI, 30, .inl (fun _ => 0))), (q5, .inl (cI, 6, .inl (fun _ => 0)))]) H := hP
  have hD : va_D _ ([(h0, .inr (3, [.int 0, .int 0, .ref q0, .ref q1, .ref q2, .ref q3, .ref q4, .int 0, .ref q5, .null, .null, .int 0, .null, .null, .int 0])), (q0, .inl (cI, 6, .inl (fun _ => 0))), (q1, .inl (cI, 6, .inl (fun _ => 0))), (q2, .inl (cI, 6, .inl (fun _ => 0))), (q3, .inl (cI, 30, .inl (fun _ => 0))), (q4, .inl (cI, 30, .inl (fun _ => 0))), (q5, .inl (cI, 6, .inl (fun _ => 0)))]) := hD
  refine lv_aload_n hx hb (by decide +kernel : decode cX3_init 52 = .ok (.aload_n 0, 1)) rfl (lv_at hl 0 rfl) ?_
  refine lv_bipush (v := 6) hx hb (by decide +kernel : decode cX3_init 53 = .ok (.bipush 6, 2)) (by decide) ?_
  refine zk_newa (N := 6) S hK hP hD hS hA (by decide) (by decide) (by decide) (Nat.le_of_ble_eq_true rfl) (Nat.le_of_ble_eq_true rfl) (by decide +kernel : decode cX3_init 55 = .ok (.newarray .int, 2)) (fun q6 H hP hD hS => ?_)
  have hP : va_P D zcls ([(h0, .inr (3, [.int 0, .int 0, .ref q0, .ref q1, .ref q2, .ref q3, .ref q4, .int 0, .ref q5, .null, .null, .int 0, .null, .null, .int 0])), (q0, .inl (cI, 6, .inl (fun _ => 0))), (q1, .inl (cI, 6, .inl (fun _ => 0))), (q2, .inl (cI, 6, .inl (fun _ => 0))), (q3, .inl (cI, 30, .inl (fun _ => 0))), (q4, .inl (cI, 30, .inl (fun _ => 0))), (q5, .inl (cI, 6, .inl (fun _ => 0))), (q6, .inl (cI, 6, .inl (fun _ => 0)))]) H := hP
  have hD : va_D _ ([(h0, .inr (3, [.int 0, .int 0, .ref q0, .ref q1, .ref q2, .ref q3, .ref q4, .int 0, .ref q5, .null, .null, .int 0, .null, .null, .int 0])), (q0, .inl (cI, 6, .inl (fun _ => 0))), (q1, .inl (cI, 6, .inl (fun _ => 0))), (q2, .inl (cI, 6, .inl (fun _ => 0))), (q3, .inl (cI, 30, .inl (fun _ => 0))), (q4, .inl (cI, 30, .inl (fun _ => 0))), (q5, .inl (cI, 6, .inl (fun _ => 0))), (q6, .inl (cI, 6, .inl (fun _ => 0)))]) := hD
  refine va_putF (ci := 3) (v := .ref q6) (ty := .array .int) hx hb hts zin_4 tyX3 tyX3_ok nmX3 hown hK hP hD hS 0 rfl rfl 9 (by decide) (hts _ zkw_7) (fun _ h9 => h9) rfl hin rfl (by decide +kernel) rfl rfl (Nat.le_of_ble_eq_true rfl) (by decide +kernel : decode cX3_init 57 = .ok (.putfield 30, 3)) (fun H locs hP hD hS => ?_)
  have hP : va_P D zcls ([(h0, .inr (3, [.int 0, .int 0, .ref q0, .ref q1, .ref q2, .ref q3, .ref q4, .int 0, .ref q5, .ref q6, .null, .int 0, .null, .null, .int 0])), (q0, .inl (cI, 6, .inl (fun _ => 0))), (q1, .inl (cI, 6, .inl (fun _ => 0))), (q2, .inl (cI, 6, .inl (fun _ => 0))), (q3, .inl (cI, 30, .inl (fun _ => 0))), (q4, .inl (cI, 30, .inl (fun _ => 0))), (q5, .inl (cI, 6, .inl (fun _ => 0))), (q6, .inl (cI, 6, .inl (fun _ => 0)))]) H := hP
  have hD : va_D _ ([(h0, .inr (3, [.int 0, .int 0, .ref q0, .ref q1, .ref q2, .ref q3, .ref q4, .int 0, .ref q5, .ref q6, .null, .int 0, .null, .null, .int 0])), (q0, .inl (cI, 6, .inl (fun _ => 0))), (q1, .inl (cI, 6, .inl (fun _ => 0))), (q2, .inl (cI, 6, .inl (fun _ => 0))), (q3, .inl (cI, 30, .inl (fun _ => 0))), (q4, .inl (cI, 30, .inl (fun _ => 0))), (q5, .inl (cI, 6, .inl (fun _ => 0))), (q6, .inl (cI, 6, .inl (fun _ => 0)))]) := hD
  refine lv_aload_n hx hb (by decide +kernel : decode cX3_init 60 = .ok (.aload_n 0, 1)) rfl (lv_at hl 0 rfl) ?_
  refine lv_bipush (v := 6) hx hb (by decide +kernel : decode cX3_init 61 = .ok (.bipush 6, 2)) (by decide) ?_
  refine zk_newa (N := 6) S hK hP hD hS hA (by decide) (by decide) (by decide) (Nat.le_of_ble_eq_true rfl) (Nat.le_of_ble_eq_true rfl) (by decide +kernel : decode cX3_init 63 = .ok (.newarray .int, 2)) (fun q7 H hP hD hS => ?_)
  have hP : va_P D zcls ([(h0, .inr (3, [.int 0, .int 0, .ref q0, .ref q1, .ref q2, .ref q3, .ref q4, .int 0, .ref q5, .ref q6, .null, .int 0, .null, .null, .int 0])), (q0, .inl (cI, 6, .inl (fun _ => 0))), (q1, .inl (cI, 6, .inl (fun _ => 0))), (q2, .inl (cI, 6, .inl (fun _ => 0))), (q3, .inl (cI, 30, .inl (fun _ => 0))), (q4, .inl (cI, 30, .inl (fun _ => 0))), (q5, .inl (cI, 6, .inl (fun _ => 0))), (q6, .inl (cI, 6, .inl (fun _ => 0))), (q7, .inl (cI, 6, .inl (fun _ => 0)))]) H := hP
  have hD : va_D _ ([(h0, .inr (3, [.int 0, .int 0, .ref q0, .ref q1, .ref q2, .ref q3, .ref q4, .int 0, .ref q5, .ref q6, .null, .int 0, .null, .null, .int 0])), (q0, .inl (cI, 6, .inl (fun _ => 0))), (q1, .inl (cI, 6, .inl (fun _ => 0))), (q2, .inl (cI, 6, .inl (fun _ => 0))), (q3, .inl (cI, 30, .inl (fun _ => 0))), (q4, .inl (cI, 30, .inl (fun _ => 0))), (q5, .inl (cI, 6, .inl (fun _ => 0))), (q6, .inl (cI, 6, .inl (fun _ => 0))), (q7, .inl (cI, 6, .inl (fun _ => 0)))]) := hD
  refine va_putF (ci := 3) (v := .ref q7) (ty := .array .int) hx hb hts zin_4 tyX3 tyX3_ok nmX3 hown hK hP hD hS 0 rfl rfl 10 (by decide) (hts _ zkw_8) (fun _ h9 => h9) rfl hin rfl (by decide +kernel) rfl rfl (Nat.le_of_ble_eq_true rfl) (by decide +kernel : decode cX3_init 65 = .ok (.putfield 33, 3)) (fun H locs hP hD hS => ?_)
  have hP : va_P D zcls ([(h0, .inr (3, [.int 0, .int 0, .ref q0, .ref q1, .ref q2, .ref q3, .ref q4, .int 0, .ref q5, .ref q6, .ref q7, .int 0, .null, .null, .int 0])), (q0, .inl (cI, 6, .inl (fun _ => 0))), (q1, .inl (cI, 6, .inl (fun _ => 0))), (q2, .inl (cI, 6, .inl (fun _ => 0))), (q3, .inl (cI, 30, .inl (fun _ => 0))), (q4, .inl (cI, 30, .inl (fun _ => 0))), (q5, .inl (cI, 6, .inl (fun _ => 0))), (q6, .inl (cI, 6, .inl (fun _ => 0))), (q7, .inl (cI, 6, .inl (fun _ => 0)))]) H := hP
  have hD : va_D _ ([(h0, .inr (3, [.int 0, .int 0, .ref q0, .ref q1, .ref q2, .ref q3, .ref q4, .int 0, .ref q5, .ref q6, .ref q7, .int 0, .null, .null, .int 0])), (q0, .inl (cI, 6, .inl (fun _ => 0))), (q1, .inl (cI, 6, .inl (fun _ => 0))), (q2, .inl (cI, 6, .inl (fun _ => 0))), (q3, .inl (cI, 30, .inl (fun _ => 0))), (q4, .inl (cI, 30, .inl (fun _ => 0))), (q5, .inl (cI, 6, .inl (fun _ => 0))), (q6, .inl (cI, 6, .inl (fun _ => 0))), (q7, .inl (cI, 6, .inl (fun _ => 0)))]) := hD
  refine lv_aload_n hx hb (by decide +kernel : decode cX3_init 68 = .ok (.aload_n 0, 1)) rfl (lv_at hl 0 rfl) ?_
  refine lv_bipush (v := 30) hx hb (by decide +kernel : decode cX3_init 69 = .ok (.bipush 30, 2)) (by decide) ?_
  refine zk_newa (N := 30) S hK hP hD hS hA (by decide) (by decide) (by decide) (Nat.le_of_ble_eq_true rfl) (Nat.le_of_ble_eq_true rfl) (by decide +kernel : decode cX3_init 71 = .ok (.newarray .int, 2)) (fun q8 H hP hD hS => ?_)
  have hP : va_P D zcls ([(h0, .inr (3, [.int 0, .int 0, .ref q0, .ref q1, .ref q2, .ref q3, .ref q4, .int 0, .ref q5, .ref q6, .ref q7, .int 0, .null, .null, .int 0])), (q0, .inl (cI, 6, .inl (fun _ => 0))), (q1, .inl (cI, 6, .inl (fun _ => 0))), (q2, .inl (cI, 6, .inl (fun _ => 0))), (q3, .inl (cI, 30, .inl (fun _ => 0))), (q4, .inl (cI, 30, .inl (fun _ => 0))), (q5, .inl (cI, 6, .inl (fun _ => 0))), (q6, .inl (cI, 6, .inl (fun _ => 0))), (q7, .inl (cI, 6, .inl (fun _ => 0))), (q8, .inl (cI, 30, .inl (fun _ => 0)))]) H := hP
  have hD : va_D _ ([(h0, .inr (3, [.int 0, .int 0, .ref q0, .ref q1, .ref q2, .ref q3, .ref q4, .int 0, .ref q5, .ref q6, .ref q7, .int 0, .null, .null, .int 0])), (q0, .inl (cI, 6, .inl (fun _ => 0))), (q1, .inl (cI, 6, .inl (fun _ => 0))), (q2, .inl (cI, 6, .inl (fun _ => 0))), (q3, .inl (cI, 30, .inl (fun _ => 0))), (q4, .inl (cI, 30, .inl (fun _ => 0))), (q5, .inl (cI, 6, .inl (fun _ => 0))), (q6, .inl (cI, 6, .inl (fun _ => 0))), (q7, .inl (cI, 6, .inl (fun _ => 0))), (q8, .inl (cI, 30, .inl (fun _ => 0)))]) := hD
  refine va_putF (ci := 3) (v := .ref q8) (ty := .array .int) hx hb hts zin_4 tyX3 tyX3_ok nmX3 hown hK hP hD hS 0 rfl rfl 12 (by decide) (hts _ zkw_9) (fun _ h9 => h9) rfl hin rfl (by decide +kernel) rfl rfl (Nat.le_of_ble_eq_true rfl) (by decide +kernel : decode cX3_init 73 = .ok (.putfield 36, 3)) (fun H locs hP hD hS => ?_)
  have hP : va_P D zcls ([(h0, .inr (3, [.int 0, .int 0, .ref q0, .ref q1, .ref q2, .ref q3, .ref q4, .int 0, .ref q5, .ref q6, .ref q7, .int 0, .ref q8, .null, .int 0])), (q0, .inl (cI, 6, .inl (fun _ => 0))), (q1, .inl (cI, 6, .inl (fun _ => 0))), (q2, .inl (cI, 6, .inl (fun _ => 0))), (q3, .inl (cI, 30, .inl (fun _ => 0))), (q4, .inl (cI, 30, .inl (fun _ => 0))), (q5, .inl (cI, 6, .inl (fun _ => 0))), (q6, .inl (cI, 6, .inl (fun _ => 0))), (q7, .inl (cI, 6, .inl (fun _ => 0))), (q8, .inl (cI, 30, .inl (fun _ => 0)))]) H := hP
  have hD : va_D _ ([(h0, .inr (3, [.int 0, .int 0, .ref q0, .ref q1, .ref q2, .ref q3, .ref q4, .int 0, .ref q5, .ref q6, .ref q7, .int 0, .ref q8, .null, .int 0])), (q0, .inl (cI, 6, .inl (fun _ => 0))), (q1, .inl (cI, 6, .inl (fun _ => 0))), (q2, .inl (cI, 6, .inl (fun _ => 0))), (q3, .inl (cI, 30, .inl (fun _ => 0))), (q4, .inl (cI, 30, .inl (fun _ => 0))), (q5, .inl (cI, 6, .inl (fun _ => 0))), (q6, .inl (cI, 6, .inl (fun _ => 0))), (q7, .inl (cI, 6, .inl (fun _ => 0))), (q8, .inl (cI, 30, .inl (fun _ => 0)))]) := hD
  refine lv_aload_n hx hb (by decide +kernel : decode cX3_init 76 = .ok (.aload_n 0, 1)) rfl (lv_at hl 0 rfl) ?_
  refine lv_bipush (v := 30) hx hb (by decide +kernel : decode cX3_init 77 = .ok (.bipush 30, 2)) (by decide) ?_
  refine zk_newa (N := 30) S hK hP hD hS hA (by decide) (by decide) (by decide) (Nat.le_of_ble_eq_true rfl) (Nat.le_of_ble_eq_true rfl) (by decide +kernel : decode cX3_init 79 = .ok (.newarray .int, 2)) (fun q9 H hP hD hS => ?_)
  have hP : va_P D zcls ([(h0, .inr (3, [.int 0, .int 0, .ref q0, .ref q1, .ref q2, .ref q3, .ref q4, .int 0, .ref q5, .ref q6, .ref q7, .int 0, .ref q8, .null, .int 0])), (q0, .inl (cI, 6, .inl (fun _ => 0))), (q1, .inl (cI, 6, .inl (fun _ => 0))), (q2, .inl (cI, 6, .inl (fun _ => 0))), (q3, .inl (cI, 30, .inl (fun _ => 0))), (q4, .inl (cI, 30, .inl (fun _ => 0))), (q5, .inl (cI, 6, .inl (fun _ => 0))), (q6, .inl (cI, 6, .inl (fun _ => 0))), (q7, .inl (cI, 6, .inl (fun _ => 0))), (q8, .inl (cI, 30, .inl (fun _ => 0))), (q9, .inl (cI, 30, .inl (fun _ => 0)))]) H := hP
  have hD : va_D _ ([(h0, .inr (3, [.int 0, .int 0, .ref q0, .ref q1, .ref q2, .ref q3, .ref q4, .int 0, .ref q5, .ref q6, .ref q7, .int 0, .ref q8, .null, .int 0])), (q0, .inl (cI, 6, .inl (fun _ => 0))), (q1, .inl (cI, 6, .inl (fun _ => 0))), (q2, .inl (cI, 6, .inl (fun _ => 0))), (q3, .inl (cI, 30, .inl (fun _ => 0))), (q4, .inl (cI, 30, .inl (fun _ => 0))), (q5, .inl (cI, 6, .inl (fun _ => 0))), (q6, .inl (cI, 6, .inl (fun _ => 0))), (q7, .inl (cI, 6, .inl (fun _ => 0))), (q8, .inl (cI, 30, .inl (fun _ => 0))), (q9, .inl (cI, 30, .inl (fun _ => 0)))]) := hD
  refine va_putF (ci := 3) (v := .ref q9) (ty := .array .int) hx hb hts zin_4 tyX3 tyX3_ok nmX3 hown hK hP hD hS 0 rfl rfl 13 (by decide) (hts _ zkw_10) (fun _ h9 => h9) rfl hin rfl (by decide +kernel) rfl rfl (Nat.le_of_ble_eq_true rfl) (by decide +kernel : decode cX3_init 81 = .ok (.putfield 39, 3)) (fun H locs hP hD hS => ?_)
  have hP : va_P D zcls ([(h0, .inr (3, [.int 0, .int 0, .ref q0, .ref q1, .ref q2, .ref q3, .ref q4, .int 0, .ref q5, .ref q6, .ref q7, .int 0, .ref q8, .ref q9, .int 0])), (q0, .inl (cI, 6, .inl (fun _ => 0))), (q1, .inl (cI, 6, .inl (fun _ => 0))), (q2, .inl (cI, 6, .inl (fun _ => 0))), (q3, .inl (cI, 30, .inl (fun _ => 0))), (q4, .inl (cI, 30, .inl (fun _ => 0))), (q5, .inl (cI, 6, .inl (fun _ => 0))), (q6, .inl (cI, 6, .inl (fun _ => 0))), (q7, .inl (cI, 6, .inl (fun _ => 0))), (q8, .inl (cI, 30, .inl (fun _ => 0))), (q9, .inl (cI, 30, .inl (fun _ => 0)))]) H := hP
  have hD : va_D _ ([(h0, .inr (3, [.int 0, .int 0, .ref q0, .ref q1, .ref q2, .ref q3, .ref q4, .int 0, .ref q5, .ref q6, .ref q7, .int 0, .ref q8, .ref q9, .int 0])), (q0, .inl (cI, 6, .inl (fun _ => 0))), (q1, .inl (cI, 6, .inl (fun _ => 0))), (q2, .inl (cI, 6, .inl (fun _ => 0))), (q3, .inl (cI, 30, .inl (fun _ => 0))), (q4, .inl (cI, 30, .inl (fun _ => 0))), (q5, .inl (cI, 6, .inl (fun _ => 0))), (q6, .inl (cI, 6, .inl (fun _ => 0))), (q7, .inl (cI, 6, .inl (fun _ => 0))), (q8, .inl (cI, 30, .inl (fun _ => 0))), (q9, .inl (cI, 30, .inl (fun _ => 0)))]) := hD
  refine lv_aload_n hx hb (by decide +kernel : decode cX3_init 84 = .ok (.aload_n 0, 1)) rfl (lv_at hl 0 rfl) ?_
  refine lv_iconst (v := 3) hx hb (by decide +kernel : decode cX3_init 85 = .ok (.iconst 3, 1)) (by decide) ?_
  refine va_put (ci := 3) (v := .int 3) (ty := .int) hx hb hts zin_4 tyX3 tyX3_ok nmX3 hown hK hP hD hS 0 rfl rfl 0 (by decide) (hts _ zkw_11) (fun _ h9 => h9) rfl (by decide +kernel) rfl rfl (Nat.le_of_ble_eq_true rfl) (by decide +kernel : decode cX3_init 86 = .ok (.putfield 42, 3)) (fun H locs hP hD hS => ?_)
  have hP : va_P D zcls ([(h0, .inr (3, [.int 3, .int 0, .ref q0, .ref q1, .ref q2, .ref q3, .ref q4, .int 0, .ref q5, .ref q6, .ref q7, .int 0, .ref q8, .ref q9, .int 0])), (q0, .inl (cI, 6, .inl (fun _ => 0))), (q1, .inl (cI, 6, .inl (fun _ => 0))), (q2, .inl (cI, 6, .inl (fun _ => 0))), (q3, .inl (cI, 30, .inl (fun _ => 0))), (q4, .inl (cI, 30, .inl (fun _ => 0))), (q5, .inl (cI, 6, .inl (fun _ => 0))), (q6, .inl (cI, 6, .inl (fun _ => 0))), (q7, .inl (cI, 6, .inl (fun _ => 0))), (q8, .inl (cI, 30, .inl (fun _ => 0))), (q9, .inl (cI, 30, .inl (fun _ => 0)))]) H := hP
  have hD : va_D _ ([(h0, .inr (3, [.int 3, .int 0, .ref q0, .ref q1, .ref q2, .ref q3, .ref q4, .int 0, .ref q5, .ref q6, .ref q7, .int 0, .ref q8, .ref q9, .int 0])), (q0, .inl (cI, 6, .inl (fun _ => 0))), (q1, .inl (cI, 6, .inl (fun _ => 0))), (q2, .inl (cI, 6, .inl (fun _ => 0))), (q3, .inl (cI, 30, .inl (fun _ => 0))), (q4, .inl (cI, 30, .inl (fun _ => 0))), (q5, .inl (cI, 6, .inl (fun _ => 0))), (q6, .inl (cI, 6, .inl (fun _ => 0))), (q7, .inl (cI, 6, .inl (fun _ => 0))), (q8, .inl (cI, 30, .inl (fun _ => 0))), (q9, .inl (cI, 30, .inl (fun _ => 0)))]) := hD
  exact zk_end hX ⟨fun i => [q0, q1, q2, q3, q4, q5, q6, q7, q8, q9].getD i 0, rfl⟩ hP hD hS ⟨(Nat.le_of_ble_eq_true rfl), (Nat.le_of_ble_eq_true rfl)⟩ (by decide +kernel : decode cX3_init 89 = .ok (.return_, 1))
theorem zkw_12 : Cond.methodLink RX1 3 objectInit ∈ zWL := zwl 183 (by decide +kernel) rfl
theorem zkw_13 : Cond.fieldLink RX1 9 RX1 "bytes" "[I" ∈ zWL := zwl 184 (by decide +kernel) rfl
theorem zkw_14 : Cond.fieldLink RX1 15 RX1 "error" "I" ∈ zWL := zwl 185 (by decide +kernel) rfl
theorem k_1 (l : Launch) (D : va_G) (cI cQ : ClassId) (h0 : Nat) : zKCon l D cI cQ yX1_init cX1_init 1 h0 (.inr (1, [.null, .int 0, .int 0, .int 0, .int 0, .int 0, .int 0, .int 0])) { frames := 1, cells := 1, slots := 100, locals := 12 } (fun w => ∃ b, w = zTxw cI h0 b) := by
  refine zKCon_of (own := RX1) (by decide +kernel) rfl rfl (by decide) (fun p en s mid args below meth c hX ls hl => ?_)
  obtain ⟨S, hr, hlk, hN, hO, hK, hP, hD, hin⟩ := id hX
  have hx := S.1
  have hb := S.2.1
  have hown := S.2.2.2.1
  have hts := S.2.2.2.2
  have hS : va_S (va_A [(h0, .inr (1, [.null, .int 0, .int 0, .int 0, .int 0, .int 0, .int 0, .int 0]))] s.heap.size) s.heap s.heap [] := va_S.rf
  have hA : ∀ q : Nat, s.heap.size ≤ q → va_A [(h0, .inr (1, [.null, .int 0, .int 0, .int 0, .int 0, .int 0, .int 0, .int 0]))] s.heap.size q := fun q h => Or.inr h
  refine lv_aload_n hx hb (by decide +kernel : decode cX1_init 0 = .ok (.aload_n 0, 1)) rfl (lv_at hl 0 rfl) ?_
  refine W.objInit hx hb hown (hts _ zkw_12) (hts _ zko1) (hts _ zko2) rfl (by rw [S.2.2.1]; exact hl.1) rfl (by decide +kernel : decode cX1_init 1 = .ok (.invokespecial 3, 3)) (Nat.le_of_ble_eq_true rfl) (Nat.le_of_ble_eq_true rfl) ?_
  refine lv_aload_n hx hb (by decide +kernel : decode cX1_init 4 = .ok (.aload_n 0, 1)) rfl (lv_at hl 0 rfl) ?_
  refine lv_bipush (v := 100) hx hb (by decide +kernel : decode cX1_init 5 = .ok (.bipush 100, 2)) (by decide) ?_
  refine zk_newa (N := 100) S hK hP hD hS hA (by decide) (by decide) (by decide) (Nat.le_of_ble_eq_true rfl) (Nat.le_of_ble_eq_true rfl) (by decide +kernel : decode cX1_init 7 = .ok (.newarray .int, 2)) (fun q0 H hP hD hS => ?_)
  have hP : va_P D zcls ([(h0, .inr (1, [.null, .int 0, .int 0, .int 0, .int 0, .int 0, .int 0, .int 0])), (q0, .inl (cI, 100, .inl (fun _ => 0)))]) H := hP
  have hD : va_D _ ([(h0, .inr (1, [.null, .int 0, .int 0, .int 0, .int 0, .int 0, .int 0, .int 0])), (q0, .inl (cI, 100, .inl (fun _ => 0)))]) := hD
  refine va_putF (ci := 1) (v := .ref q0) (ty := .array .int) hx hb hts zin_2 tyX1 tyX1_ok nmX1 hown hK hP hD hS 0 rfl rfl 0 (by decide) (hts _ zkw_13) (fun _ h9 => h9) rfl hin rfl (by decide +kernel) rfl rfl (Nat.le_of_ble_eq_true rfl) (by decide +kernel : decode cX1_init 9 = .ok (.putfield 9, 3)) (fun H locs hP hD hS => ?_)
  have hP : va_P D zcls ([(h0, .inr (1, [.ref q0, .int 0, .int 0, .int 0, .int 0, .int 0, .int 0, .int 0])), (q0, .inl (cI, 100, .inl (fun _ => 0)))]) H := hP
  have hD : va_D _ ([(h0, .inr (1, [.ref q0, .int 0, .int 0, .int 0, .int 0, .int 0, .int 0, .int 0])), (q0, .inl (cI, 100, .inl (fun _ => 0)))]) := hD
  refine lv_aload_n hx hb (by decide +kernel : decode cX1_init 12 = .ok (.aload_n 0, 1)) rfl (lv_at hl 0 rfl) ?_
  refine lv_iconst (v := -1) hx hb (by decide +kernel : decode cX1_init 13 = .ok (.iconst (-1), 1)) (by decide) ?_
  refine va_put (ci := 1) (v := .int (-1)) (ty := .int) hx hb hts zin_2 tyX1 tyX1_ok nmX1 hown hK hP hD hS 0 rfl rfl 3 (by decide) (hts _ zkw_14) (fun _ h9 => h9) rfl (by decide +kernel) rfl rfl (Nat.le_of_ble_eq_true rfl) (by decide +kernel : decode cX1_init 14 = .ok (.putfield 15, 3)) (fun H locs hP hD hS => ?_)
  have hP : va_P D zcls ([(h0, .inr (1, [.ref q0, .int 0, .int 0, .int (-1), .int 0, .int 0, .int 0, .int 0])), (q0, .inl (cI, 100, .inl (fun _ => 0)))]) H := hP
  have hD : va_D _ ([(h0, .inr (1, [.ref q0, .int 0, .int 0, .int (-1), .int 0, .int 0, .int 0, .int 0])), (q0, .inl (cI, 100, .inl (fun _ => 0)))]) := hD
  exact zk_end hX ⟨q0, rfl⟩ hP hD hS ⟨(Nat.le_of_ble_eq_true rfl), (Nat.le_of_ble_eq_true rfl)⟩ (by decide +kernel : decode cX1_init 17 = .ok (.return_, 1))
theorem zkw_15 : Cond.methodLink RX2 3 objectInit ∈ zWL := zwl 71 (by decide +kernel) rfl
theorem zkw_16 : Cond.classLink RX2 9 RX3 ∈ zWL := zwl 72 (by decide +kernel) rfl
theorem zkw_17 : Cond.instantiable RX3 15 ∈ zWL := zwl 73 (by decide +kernel) rfl
theorem zkw_18 : Cond.initialized RX3 ∈ zWL := zwl 47 (by decide +kernel) rfl
theorem zkw_19 : Cond.methodLinkNest RX2 11 yX3_init "RepairShop" ∈ zNL := znl 74 (by decide +kernel) rfl
theorem zkw_20 : Cond.code yX3_init cX3_init 1 none ∈ zWL := zwl 76 (by decide +kernel) rfl
theorem zkw_21 : Cond.instanceMethod yX3_init ∈ zWL := zwl 75 (by decide +kernel) rfl
theorem zkw_22 : Cond.fieldLink RX2 12 RX2 "shop" "LRepairShop$Shop;" ∈ zWL := zwl 145 (by decide +kernel) rfl
theorem zkw_23 : Cond.fieldLink RX2 18 RX2 "draft" "[I" ∈ zWL := zwl 147 (by decide +kernel) rfl
theorem zkw_24 : Cond.fieldLink RX2 22 RX2 "started" "[I" ∈ zWL := zwl 148 (by decide +kernel) rfl
theorem zkw_25 : Cond.fieldLink RX2 25 RX2 "freeFrom" "[I" ∈ zWL := zwl 149 (by decide +kernel) rfl
theorem k_2 (l : Launch) (D : va_G) (cI cQ : ClassId) (h0 : Nat) : zKCon l D cI cQ yX2_init cX2_init 1 h0 (.inr (2, [.null, .null, .null, .null])) { frames := 2, cells := 14, slots := 212, locals := 40 } (fun w => ∃ sh a d st fr, w = zPlw cI h0 sh a d st fr) := by
  refine zKCon_of (own := RX2) (by decide +kernel) rfl rfl (by decide) (fun p en s mid args below meth c hX ls hl => ?_)
  obtain ⟨S, hr, hlk, hN, hO, hK, hP, hD, hin⟩ := id hX
  have hx := S.1
  have hb := S.2.1
  have hown := S.2.2.2.1
  have hts := S.2.2.2.2
  have hS : va_S (va_A [(h0, .inr (2, [.null, .null, .null, .null]))] s.heap.size) s.heap s.heap [] := va_S.rf
  have hA : ∀ q : Nat, s.heap.size ≤ q → va_A [(h0, .inr (2, [.null, .null, .null, .null]))] s.heap.size q := fun q h => Or.inr h
  refine lv_aload_n hx hb (by decide +kernel : decode cX2_init 0 = .ok (.aload_n 0, 1)) rfl (lv_at hl 0 rfl) ?_
  refine W.objInit hx hb hown (hts _ zkw_15) (hts _ zko1) (hts _ zko2) rfl (by rw [S.2.2.1]; exact hl.1) rfl (by decide +kernel : decode cX2_init 1 = .ok (.invokespecial 3, 3)) (Nat.le_of_ble_eq_true rfl) (Nat.le_of_ble_eq_true rfl) ?_
  refine lv_aload_n hx hb (by decide +kernel : decode cX2_init 4 = .ok (.aload_n 0, 1)) rfl (lv_at hl 0 rfl) ?_
  refine va_new (ci := 3) (fs := [.int 0, .int 0, .null, .null, .null, .null, .null, .int 0, .null, .null, .null, .int 0, .null, .null, .int 0]) (C := RX3) (T := TX3) (N := 15) hx hb hts zin_4 tyX3 tyX3_ok hown (hts _ zkw_16) (hts _ zkw_17) (hts _ zkw_18) hK hP hD hS hA rfl zdef_3 (Nat.le_of_ble_eq_true rfl) (Nat.le_of_ble_eq_true rfl) (by decide +kernel : decode cX2_init 5 = .ok (.new 9, 3)) (fun sh H hP hD hS => ?_)
  refine lv_dup hx hb (by decide +kernel : decode cX2_init 8 = .ok (.dup, 1)) rfl ?_
  refine zk_callN (ws := [(h0, .inr (2, [.null, .null, .null, .null]))]) (h := sh) (rest := [.ref sh, .ref h0]) S (k_3 l D cI cQ sh) zkw_19 zkw_20 zkw_21 zkw_18 rfl ⟨by decide +kernel, by decide +kernel⟩ (by decide +kernel) ⟨(Nat.le_of_ble_eq_true rfl), (Nat.le_of_ble_eq_true rfl)⟩ ⟨(Nat.le_of_ble_eq_true rfl), (Nat.le_of_ble_eq_true rfl)⟩ hl.1 (Nat.le_of_ble_eq_true rfl) (by decide +kernel : decode cX2_init 9 = .ok (.invokespecial 11, 3)) hK hN hO hP hD hS hA (fun w1 H locs hp hP hD hS => ?_)
  obtain ⟨a, rfl⟩ := hp
  have hP : va_P D zcls ((h0, .inr (2, [.null, .null, .null, .null])) :: zShw cI sh a) H := hP
  have hD : va_D _ ((h0, .inr (2, [.null, .null, .null, .null])) :: zShw cI sh a) := hD
  refine va_putF (ci := 2) (v := .ref sh) (ty := .object RX3) hx hb hts zin_3 tyX2 tyX2_ok nmX2 hown hK hP hD hS 0 rfl rfl 0 (by decide) (hts _ zkw_22) (fun _ h9 => h9) rfl hin rfl (by decide +kernel) rfl rfl (Nat.le_of_ble_eq_true rfl) (by decide +kernel : decode cX2_init 12 = .ok (.putfield 12, 3)) (fun H locs hP hD hS => ?_)
  have hP : va_P D zcls ((h0, .inr (2, [.ref sh, .null, .null, .null])) :: (zShw cI sh a)) H := hP
  have hD : va_D _ ((h0, .inr (2, [.ref sh, .null, .null, .null])) :: (zShw cI sh a)) := hD
  refine lv_aload_n hx hb (by decide +kernel : decode cX2_init 15 = .ok (.aload_n 0, 1)) rfl (lv_at hl 0 rfl) ?_
  refine lv_bipush (v := 30) hx hb (by decide +kernel : decode cX2_init 16 = .ok (.bipush 30, 2)) (by decide) ?_
  refine zk_newa (N := 30) S hK hP hD hS hA (by decide) (by decide) (by decide) (Nat.le_of_ble_eq_true rfl) (Nat.le_of_ble_eq_true rfl) (by decide +kernel : decode cX2_init 18 = .ok (.newarray .int, 2)) (fun d H hP hD hS => ?_)
  have hP : va_P D zcls ((h0, .inr (2, [.ref sh, .null, .null, .null])) :: ((zShw cI sh a ++ [(d, .inl (cI, 30, .inl (fun _ => 0)))]))) H := hP
  have hD : va_D _ ((h0, .inr (2, [.ref sh, .null, .null, .null])) :: ((zShw cI sh a ++ [(d, .inl (cI, 30, .inl (fun _ => 0)))]))) := hD
  refine va_putF (ci := 2) (v := .ref d) (ty := .array .int) hx hb hts zin_3 tyX2 tyX2_ok nmX2 hown hK hP hD hS 0 rfl rfl 1 (by decide) (hts _ zkw_23) (fun _ h9 => h9) rfl hin rfl (by decide +kernel) rfl rfl (Nat.le_of_ble_eq_true rfl) (by decide +kernel : decode cX2_init 20 = .ok (.putfield 18, 3)) (fun H locs hP hD hS => ?_)
  have hP : va_P D zcls ((h0, .inr (2, [.ref sh, .ref d, .null, .null])) :: ((zShw cI sh a ++ [(d, .inl (cI, 30, .inl (fun _ => 0)))]))) H := hP
  have hD : va_D _ ((h0, .inr (2, [.ref sh, .ref d, .null, .null])) :: ((zShw cI sh a ++ [(d, .inl (cI, 30, .inl (fun _ => 0)))]))) := hD
  refine lv_aload_n hx hb (by decide +kernel : decode cX2_init 23 = .ok (.aload_n 0, 1)) rfl (lv_at hl 0 rfl) ?_
  refine lv_bipush (v := 6) hx hb (by decide +kernel : decode cX2_init 24 = .ok (.bipush 6, 2)) (by decide) ?_
  refine zk_newa (N := 6) S hK hP hD hS hA (by decide) (by decide) (by decide) (Nat.le_of_ble_eq_true rfl) (Nat.le_of_ble_eq_true rfl) (by decide +kernel : decode cX2_init 26 = .ok (.newarray .int, 2)) (fun st H hP hD hS => ?_)
  have hP : va_P D zcls ((h0, .inr (2, [.ref sh, .ref d, .null, .null])) :: (((zShw cI sh a ++ [(d, .inl (cI, 30, .inl (fun _ => 0)))]) ++ [(st, .inl (cI, 6, .inl (fun _ => 0)))]))) H := hP
  have hD : va_D _ ((h0, .inr (2, [.ref sh, .ref d, .null, .null])) :: (((zShw cI sh a ++ [(d, .inl (cI, 30, .inl (fun _ => 0)))]) ++ [(st, .inl (cI, 6, .inl (fun _ => 0)))]))) := hD
  refine va_putF (ci := 2) (v := .ref st) (ty := .array .int) hx hb hts zin_3 tyX2 tyX2_ok nmX2 hown hK hP hD hS 0 rfl rfl 2 (by decide) (hts _ zkw_24) (fun _ h9 => h9) rfl hin rfl (by decide +kernel) rfl rfl (Nat.le_of_ble_eq_true rfl) (by decide +kernel : decode cX2_init 28 = .ok (.putfield 22, 3)) (fun H locs hP hD hS => ?_)
  have hP : va_P D zcls ((h0, .inr (2, [.ref sh, .ref d, .ref st, .null])) :: (((zShw cI sh a ++ [(d, .inl (cI, 30, .inl (fun _ => 0)))]) ++ [(st, .inl (cI, 6, .inl (fun _ => 0)))]))) H := hP
  have hD : va_D _ ((h0, .inr (2, [.ref sh, .ref d, .ref st, .null])) :: (((zShw cI sh a ++ [(d, .inl (cI, 30, .inl (fun _ => 0)))]) ++ [(st, .inl (cI, 6, .inl (fun _ => 0)))]))) := hD
  refine lv_aload_n hx hb (by decide +kernel : decode cX2_init 31 = .ok (.aload_n 0, 1)) rfl (lv_at hl 0 rfl) ?_
  refine lv_iconst (v := 5) hx hb (by decide +kernel : decode cX2_init 32 = .ok (.iconst 5, 1)) (by decide) ?_
  refine zk_newa (N := 5) S hK hP hD hS hA (by decide) (by decide) (by decide) (Nat.le_of_ble_eq_true rfl) (Nat.le_of_ble_eq_true rfl) (by decide +kernel : decode cX2_init 33 = .ok (.newarray .int, 2)) (fun fr H hP hD hS => ?_)
  have hP : va_P D zcls ((h0, .inr (2, [.ref sh, .ref d, .ref st, .null])) :: ((((zShw cI sh a ++ [(d, .inl (cI, 30, .inl (fun _ => 0)))]) ++ [(st, .inl (cI, 6, .inl (fun _ => 0)))]) ++ [(fr, .inl (cI, 5, .inl (fun _ => 0)))]))) H := hP
  have hD : va_D _ ((h0, .inr (2, [.ref sh, .ref d, .ref st, .null])) :: ((((zShw cI sh a ++ [(d, .inl (cI, 30, .inl (fun _ => 0)))]) ++ [(st, .inl (cI, 6, .inl (fun _ => 0)))]) ++ [(fr, .inl (cI, 5, .inl (fun _ => 0)))]))) := hD
  refine va_putF (ci := 2) (v := .ref fr) (ty := .array .int) hx hb hts zin_3 tyX2 tyX2_ok nmX2 hown hK hP hD hS 0 rfl rfl 3 (by decide) (hts _ zkw_25) (fun _ h9 => h9) rfl hin rfl (by decide +kernel) rfl rfl (Nat.le_of_ble_eq_true rfl) (by decide +kernel : decode cX2_init 35 = .ok (.putfield 25, 3)) (fun H locs hP hD hS => ?_)
  have hP : va_P D zcls ((h0, .inr (2, [.ref sh, .ref d, .ref st, .ref fr])) :: ((((zShw cI sh a ++ [(d, .inl (cI, 30, .inl (fun _ => 0)))]) ++ [(st, .inl (cI, 6, .inl (fun _ => 0)))]) ++ [(fr, .inl (cI, 5, .inl (fun _ => 0)))]))) H := hP
  have hD : va_D _ ((h0, .inr (2, [.ref sh, .ref d, .ref st, .ref fr])) :: ((((zShw cI sh a ++ [(d, .inl (cI, 30, .inl (fun _ => 0)))]) ++ [(st, .inl (cI, 6, .inl (fun _ => 0)))]) ++ [(fr, .inl (cI, 5, .inl (fun _ => 0)))]))) := hD
  exact zk_end hX ⟨sh, a, d, st, fr, rfl⟩ hP hD hS ⟨(Nat.le_of_ble_eq_true rfl), (Nat.le_of_ble_eq_true rfl)⟩ (by decide +kernel : decode cX2_init 38 = .ok (.return_, 1))
theorem zkw_26 : Cond.methodLink RX0 3 objectInit ∈ zWL := zwl 164 (by decide +kernel) rfl
theorem zkw_27 : Cond.classLink RX0 9 RX3 ∈ zWL := zwl 165 (by decide +kernel) rfl
theorem zkw_28 : Cond.fieldLink RX0 11 RX0 "states" "[LRepairShop$Shop;" ∈ zWL := zwl 168 (by decide +kernel) rfl
theorem zkw_29 : Cond.methodLinkNest RX0 17 yX3_init "RepairShop" ∈ zNL := znl 167 (by decide +kernel) rfl
theorem k_0 (l : Launch) (D : va_G) (cI cQ : ClassId) (h0 : Nat) : zKCon l D cI cQ yX0_init cX0_init 2 h0 (.inr (0, [.null, .int 0, .int 0])) { frames := 2, cells := 45, slots := 688, locals := 40 } (fun w => ∃ st f s0 s1 s2 s3 a0 a1 a2 a3, (f 0 = some s0 ∧ f 1 = some s1 ∧ f 2 = some s2 ∧ f 3 = some s3) ∧ w = zHiw cI cQ h0 st f s0 s1 s2 s3 a0 a1 a2 a3) := by
  refine zKCon_of (own := RX0) (by decide +kernel) rfl rfl (by decide) (fun p en s mid args below meth c hX ls hl => ?_)
  obtain ⟨S, hr, hlk, hN, hO, hK, hP, hD, hin⟩ := id hX
  have hx := S.1
  have hb := S.2.1
  have hown := S.2.2.2.1
  have hts := S.2.2.2.2
  have hS : va_S (va_A [(h0, .inr (0, [.null, .int 0, .int 0]))] s.heap.size) s.heap s.heap [] := va_S.rf
  have hA : ∀ q : Nat, s.heap.size ≤ q → va_A [(h0, .inr (0, [.null, .int 0, .int 0]))] s.heap.size q := fun q h => Or.inr h
  refine lv_aload_n hx hb (by decide +kernel : decode cX0_init 0 = .ok (.aload_n 0, 1)) rfl (lv_at hl 0 rfl) ?_
  refine W.objInit hx hb hown (hts _ zkw_26) (hts _ zko1) (hts _ zko2) rfl (by rw [S.2.2.1]; exact hl.1) rfl (by decide +kernel : decode cX0_init 1 = .ok (.invokespecial 3, 3)) (Nat.le_of_ble_eq_true rfl) (Nat.le_of_ble_eq_true rfl) ?_
  refine lv_aload_n hx hb (by decide +kernel : decode cX0_init 4 = .ok (.aload_n 0, 1)) rfl (lv_at hl 0 rfl) ?_
  refine lv_iconst (v := 4) hx hb (by decide +kernel : decode cX0_init 5 = .ok (.iconst 4, 1)) (by decide) ?_
  refine zk_newq (N := 4) S zkw_27 hO hK hP hD hS hA (by decide) (by decide) (by decide) (Nat.le_of_ble_eq_true rfl) (Nat.le_of_ble_eq_true rfl) (by decide +kernel : decode cX0_init 6 = .ok (.anewarray 9, 3)) (fun st H hP hD hS => ?_)
  have hP : va_P D zcls ([(h0, .inr (0, [.null, .int 0, .int 0])), (st, .inl (cQ, 4, .inr (.inr (.inr (.inr (fun _ => none))))))]) H := hP
  have hD : va_D _ ([(h0, .inr (0, [.null, .int 0, .int 0])), (st, .inl (cQ, 4, .inr (.inr (.inr (.inr (fun _ => none))))))]) := hD
  refine va_putF (ci := 0) (v := .ref st) (ty := .array (.object RX3)) hx hb hts zin_1 tyX0 tyX0_ok nmX0 hown hK hP hD hS 0 rfl rfl 0 (by decide) (hts _ zkw_28) (fun _ h9 => h9) rfl hin rfl (by decide +kernel) rfl rfl (Nat.le_of_ble_eq_true rfl) (by decide +kernel : decode cX0_init 9 = .ok (.putfield 11, 3)) (fun H locs hP hD hS => ?_)
  have hP : va_P D zcls ([(h0, .inr (0, [.ref st, .int 0, .int 0])), (st, .inl (cQ, 4, .inr (.inr (.inr (.inr (fun _ => none))))))]) H := hP
  have hD : va_D _ ([(h0, .inr (0, [.ref st, .int 0, .int 0])), (st, .inl (cQ, 4, .inr (.inr (.inr (.inr (fun _ => none))))))]) := hD
  refine lv_iconst (v := 0) hx hb (by decide +kernel : decode cX0_init 12 = .ok (.iconst 0, 1)) (by decide) ?_
  refine lv_istore_n (lv' := [(1, .int 0), (0, .ref h0)]) hx hb (by decide +kernel : decode cX0_init 13 = .ok (.istore_n 1, 1)) rfl hl (by decide) rfl (fun ls hl => ?_)
  refine lv_iload_n hx hb (by decide +kernel : decode cX0_init 14 = .ok (.iload_n 1, 1)) rfl (lv_at hl 0 rfl) ?_
  refine lv_iconst (v := 4) hx hb (by decide +kernel : decode cX0_init 15 = .ok (.iconst 4, 1)) (by decide) ?_
  refine lv_icmp_ge (tgt := 38) hx hb (by decide +kernel : decode cX0_init 16 = .ok (.if_icmp .ge 22, 3)) rfl (fun q => absurd q (by decide)) (fun _ => ?_)
  refine lv_aload_n hx hb (by decide +kernel : decode cX0_init 19 = .ok (.aload_n 0, 1)) rfl (lv_at hl 1 rfl) ?_
  refine va_get (ci := 0) (v := .ref st) hx hb hts zin_1 hown hK hP 0 rfl rfl 0 (by decide) (hts _ zkw_28) (fun _ h9 => h9) rfl (by decide +kernel : decode cX0_init 20 = .ok (.getfield 11, 3)) ?_
  refine lv_iload_n hx hb (by decide +kernel : decode cX0_init 23 = .ok (.iload_n 1, 1)) rfl (lv_at hl 0 rfl) ?_
  refine va_new (ci := 3) (fs := [.int 0, .int 0, .null, .null, .null, .null, .null, .int 0, .null, .null, .null, .int 0, .null, .null, .int 0]) (C := RX3) (T := TX3) (N := 15) hx hb hts zin_4 tyX3 tyX3_ok hown (hts _ zkw_27) (hts _ zkw_17) (hts _ zkw_18) hK hP hD hS hA rfl zdef_3 (Nat.le_of_ble_eq_true rfl) (Nat.le_of_ble_eq_true rfl) (by decide +kernel : decode cX0_init 24 = .ok (.new 9, 3)) (fun s0 H hP hD hS => ?_)
  refine lv_dup hx hb (by decide +kernel : decode cX0_init 27 = .ok (.dup, 1)) rfl ?_
  refine zk_callN (ws := ((h0, .inr (0, [.ref st, .int 0, .int 0])) :: (st, .inl (cQ, 4, .inr (.inr (.inr (.inr (fun _ => none)))))) :: [])) (h := s0) (rest := [.ref s0, .int 0, .ref st]) S (k_3 l D cI cQ s0) zkw_29 zkw_20 zkw_21 zkw_18 rfl ⟨by decide +kernel, by decide +kernel⟩ (by decide +kernel) ⟨(Nat.le_of_ble_eq_true rfl), (Nat.le_of_ble_eq_true rfl)⟩ ⟨(Nat.le_of_ble_eq_true rfl), (Nat.le_of_ble_eq_true rfl)⟩ hl.1 (Nat.le_of_ble_eq_true rfl) (by decide +kernel : decode cX0_init 28 = .ok (.invokespecial 17, 3)) hK hN hO hP hD hS hA (fun w1 H locs hp hP hD hS => ?_)
  obtain ⟨a0, rfl⟩ := hp
  have hP : va_P D zcls ((h0, .inr (0, [.ref st, .int 0, .int 0])) :: (st, .inl (cQ, 4, .inr (.inr (.inr (.inr (fun _ => none)))))) :: zShw cI s0 a0) H := hP
  have hD : va_D _ ((h0, .inr (0, [.ref st, .int 0, .int 0])) :: (st, .inl (cQ, 4, .inr (.inr (.inr (.inr (fun _ => none)))))) :: zShw cI s0 a0) := hD
  refine va_astq (n := 4) (cA := cQ) (r := (RX3, TX3, 15)) (f := (fun _ => none)) hx hb hK hP hD hS 1 1 2 3 rfl rfl rfl rfl (zvpin (by decide)) (by decide +kernel : decode cX0_init 31 = .ok (.aastore, 1)) (fun H locs hP hD hS => ?_)
  have hP : va_P D zcls ((h0, .inr (0, [.ref st, .int 0, .int 0])) :: (st, .inl (cQ, 4, .inr (.inr (.inr (.inr (va_up (fun _ => none) (0 : Int32).toNatClampNeg (some s0))))))) :: zShw cI s0 a0) H := hP
  have hD : va_D _ ((h0, .inr (0, [.ref st, .int 0, .int 0])) :: (st, .inl (cQ, 4, .inr (.inr (.inr (.inr (va_up (fun _ => none) (0 : Int32).toNatClampNeg (some s0))))))) :: zShw cI s0 a0) := hD
  refine lv_iinc (v := 1) (lv' := [(1, .int 1), (0, .ref h0)]) hx hb (by decide +kernel : decode cX0_init 32 = .ok (.iinc 1 1, 3)) hl (k := 0) rfl (by decide) (by decide) rfl (fun ls hl => ?_)
  refine lv_goto (tgt := 14) hx hb (by decide +kernel : decode cX0_init 35 = .ok (.goto (-21), 3)) rfl ?_
  refine lv_iload_n hx hb (by decide +kernel : decode cX0_init 14 = .ok (.iload_n 1, 1)) rfl (lv_at hl 0 rfl) ?_
  refine lv_iconst (v := 4) hx hb (by decide +kernel : decode cX0_init 15 = .ok (.iconst 4, 1)) (by decide) ?_
  refine lv_icmp_ge (tgt := 38) hx hb (by decide +kernel : decode cX0_init 16 = .ok (.if_icmp .ge 22, 3)) rfl (fun q => absurd q (by decide)) (fun _ => ?_)
  refine lv_aload_n hx hb (by decide +kernel : decode cX0_init 19 = .ok (.aload_n 0, 1)) rfl (lv_at hl 1 rfl) ?_
  refine va_get (ci := 0) (v := .ref st) hx hb hts zin_1 hown hK hP 0 rfl rfl 0 (by decide) (hts _ zkw_28) (fun _ h9 => h9) rfl (by decide +kernel : decode cX0_init 20 = .ok (.getfield 11, 3)) ?_
  refine lv_iload_n hx hb (by decide +kernel : decode cX0_init 23 = .ok (.iload_n 1, 1)) rfl (lv_at hl 0 rfl) ?_
  refine va_new (ci := 3) (fs := [.int 0, .int 0, .null, .null, .null, .null, .null, .int 0, .null, .null, .null, .int 0, .null, .null, .int 0]) (C := RX3) (T := TX3) (N := 15) hx hb hts zin_4 tyX3 tyX3_ok hown (hts _ zkw_27) (hts _ zkw_17) (hts _ zkw_18) hK hP hD hS hA rfl zdef_3 (Nat.le_of_ble_eq_true rfl) (Nat.le_of_ble_eq_true rfl) (by decide +kernel : decode cX0_init 24 = .ok (.new 9, 3)) (fun s1 H hP hD hS => ?_)
  refine lv_dup hx hb (by decide +kernel : decode cX0_init 27 = .ok (.dup, 1)) rfl ?_
  refine zk_callN (ws := ((h0, .inr (0, [.ref st, .int 0, .int 0])) :: (st, .inl (cQ, 4, .inr (.inr (.inr (.inr (va_up (fun _ => none) (0 : Int32).toNatClampNeg (some s0))))))) :: zShw cI s0 a0)) (h := s1) (rest := [.ref s1, .int 1, .ref st]) S (k_3 l D cI cQ s1) zkw_29 zkw_20 zkw_21 zkw_18 rfl ⟨by decide +kernel, by decide +kernel⟩ (by decide +kernel) ⟨(Nat.le_of_ble_eq_true rfl), (Nat.le_of_ble_eq_true rfl)⟩ ⟨(Nat.le_of_ble_eq_true rfl), (Nat.le_of_ble_eq_true rfl)⟩ hl.1 (Nat.le_of_ble_eq_true rfl) (by decide +kernel : decode cX0_init 28 = .ok (.invokespecial 17, 3)) hK hN hO hP hD hS hA (fun w1 H locs hp hP hD hS => ?_)
  obtain ⟨a1, rfl⟩ := hp
  have hP : va_P D zcls ((h0, .inr (0, [.ref st, .int 0, .int 0])) :: (st, .inl (cQ, 4, .inr (.inr (.inr (.inr (va_up (fun _ => none) (0 : Int32).toNatClampNeg (some s0))))))) :: (zShw cI s0 a0 ++ zShw cI s1 a1)) H := hP
  have hD : va_D _ ((h0, .inr (0, [.ref st, .int 0, .int 0])) :: (st, .inl (cQ, 4, .inr (.inr (.inr (.inr (va_up (fun _ => none) (0 : Int32).toNatClampNeg (some s0))))))) :: (zShw cI s0 a0 ++ zShw cI s1 a1)) := hD
  refine va_astq (n := 4) (cA := cQ) (r := (RX3, TX3, 15)) (f := (va_up (fun _ => none) (0 : Int32).toNatClampNeg (some s0))) hx hb hK hP hD hS 1 1 13 3 rfl rfl rfl rfl (zvpin (by decide)) (by decide +kernel : decode cX0_init 31 = .ok (.aastore, 1)) (fun H locs hP hD hS => ?_)
  have hP : va_P D zcls ((h0, .inr (0, [.ref st, .int 0, .int 0])) :: (st, .inl (cQ, 4, .inr (.inr (.inr (.inr (va_up (va_up (fun _ => none) (0 : Int32).toNatClampNeg (some s0)) (1 : Int32).toNatClampNeg (some s1))))))) :: (zShw cI s0 a0 ++ zShw cI s1 a1)) H := hP
  have hD : va_D _ ((h0, .inr (0, [.ref st, .int 0, .int 0])) :: (st, .inl (cQ, 4, .inr (.inr (.inr (.inr (va_up (va_up (fun _ => none) (0 : Int32).toNatClampNeg (some s0)) (1 : Int32).toNatClampNeg (some s1))))))) :: (zShw cI s0 a0 ++ zShw cI s1 a1)) := hD
  refine lv_iinc (v := 2) (lv' := [(1, .int 2), (0, .ref h0)]) hx hb (by decide +kernel : decode cX0_init 32 = .ok (.iinc 1 1, 3)) hl (k := 0) rfl (by decide) (by decide) rfl (fun ls hl => ?_)
  refine lv_goto (tgt := 14) hx hb (by decide +kernel : decode cX0_init 35 = .ok (.goto (-21), 3)) rfl ?_
  refine lv_iload_n hx hb (by decide +kernel : decode cX0_init 14 = .ok (.iload_n 1, 1)) rfl (lv_at hl 0 rfl) ?_
  refine lv_iconst (v := 4) hx hb (by decide +kernel : decode cX0_init 15 = .ok (.iconst 4, 1)) (by decide) ?_
  refine lv_icmp_ge (tgt := 38) hx hb (by decide +kernel : decode cX0_init 16 = .ok (.if_icmp .ge 22, 3)) rfl (fun q => absurd q (by decide)) (fun _ => ?_)
  refine lv_aload_n hx hb (by decide +kernel : decode cX0_init 19 = .ok (.aload_n 0, 1)) rfl (lv_at hl 1 rfl) ?_
  refine va_get (ci := 0) (v := .ref st) hx hb hts zin_1 hown hK hP 0 rfl rfl 0 (by decide) (hts _ zkw_28) (fun _ h9 => h9) rfl (by decide +kernel : decode cX0_init 20 = .ok (.getfield 11, 3)) ?_
  refine lv_iload_n hx hb (by decide +kernel : decode cX0_init 23 = .ok (.iload_n 1, 1)) rfl (lv_at hl 0 rfl) ?_
  refine va_new (ci := 3) (fs := [.int 0, .int 0, .null, .null, .null, .null, .null, .int 0, .null, .null, .null, .int 0, .null, .null, .int 0]) (C := RX3) (T := TX3) (N := 15) hx hb hts zin_4 tyX3 tyX3_ok hown (hts _ zkw_27) (hts _ zkw_17) (hts _ zkw_18) hK hP hD hS hA rfl zdef_3 (Nat.le_of_ble_eq_true rfl) (Nat.le_of_ble_eq_true rfl) (by decide +kernel : decode cX0_init 24 = .ok (.new 9, 3)) (fun s2 H hP hD hS => ?_)
  refine lv_dup hx hb (by decide +kernel : decode cX0_init 27 = .ok (.dup, 1)) rfl ?_
  refine zk_callN (ws := ((h0, .inr (0, [.ref st, .int 0, .int 0])) :: (st, .inl (cQ, 4, .inr (.inr (.inr (.inr (va_up (va_up (fun _ => none) (0 : Int32).toNatClampNeg (some s0)) (1 : Int32).toNatClampNeg (some s1))))))) :: (zShw cI s0 a0 ++ zShw cI s1 a1))) (h := s2) (rest := [.ref s2, .int 2, .ref st]) S (k_3 l D cI cQ s2) zkw_29 zkw_20 zkw_21 zkw_18 rfl ⟨by decide +kernel, by decide +kernel⟩ (by decide +kernel) ⟨(Nat.le_of_ble_eq_true rfl), (Nat.le_of_ble_eq_true rfl)⟩ ⟨(Nat.le_of_ble_eq_true rfl), (Nat.le_of_ble_eq_true rfl)⟩ hl.1 (Nat.le_of_ble_eq_true rfl) (by decide +kernel : decode cX0_init 28 = .ok (.invokespecial 17, 3)) hK hN hO hP hD hS hA (fun w1 H locs hp hP hD hS => ?_)
  obtain ⟨a2, rfl⟩ := hp
  have hP : va_P D zcls ((h0, .inr (0, [.ref st, .int 0, .int 0])) :: (st, .inl (cQ, 4, .inr (.inr (.inr (.inr (va_up (va_up (fun _ => none) (0 : Int32).toNatClampNeg (some s0)) (1 : Int32).toNatClampNeg (some s1))))))) :: ((zShw cI s0 a0 ++ zShw cI s1 a1) ++ zShw cI s2 a2)) H := hP
  have hD : va_D _ ((h0, .inr (0, [.ref st, .int 0, .int 0])) :: (st, .inl (cQ, 4, .inr (.inr (.inr (.inr (va_up (va_up (fun _ => none) (0 : Int32).toNatClampNeg (some s0)) (1 : Int32).toNatClampNeg (some s1))))))) :: ((zShw cI s0 a0 ++ zShw cI s1 a1) ++ zShw cI s2 a2)) := hD
  refine va_astq (n := 4) (cA := cQ) (r := (RX3, TX3, 15)) (f := (va_up (va_up (fun _ => none) (0 : Int32).toNatClampNeg (some s0)) (1 : Int32).toNatClampNeg (some s1))) hx hb hK hP hD hS 1 1 24 3 rfl rfl rfl rfl (zvpin (by decide)) (by decide +kernel : decode cX0_init 31 = .ok (.aastore, 1)) (fun H locs hP hD hS => ?_)
  have hP : va_P D zcls ((h0, .inr (0, [.ref st, .int 0, .int 0])) :: (st, .inl (cQ, 4, .inr (.inr (.inr (.inr (va_up (va_up (va_up (fun _ => none) (0 : Int32).toNatClampNeg (some s0)) (1 : Int32).toNatClampNeg (some s1)) (2 : Int32).toNatClampNeg (some s2))))))) :: ((zShw cI s0 a0 ++ zShw cI s1 a1) ++ zShw cI s2 a2)) H := hP
  have hD : va_D _ ((h0, .inr (0, [.ref st, .int 0, .int 0])) :: (st, .inl (cQ, 4, .inr (.inr (.inr (.inr (va_up (va_up (va_up (fun _ => none) (0 : Int32).toNatClampNeg (some s0)) (1 : Int32).toNatClampNeg (some s1)) (2 : Int32).toNatClampNeg (some s2))))))) :: ((zShw cI s0 a0 ++ zShw cI s1 a1) ++ zShw cI s2 a2)) := hD
  refine lv_iinc (v := 3) (lv' := [(1, .int 3), (0, .ref h0)]) hx hb (by decide +kernel : decode cX0_init 32 = .ok (.iinc 1 1, 3)) hl (k := 0) rfl (by decide) (by decide) rfl (fun ls hl => ?_)
  refine lv_goto (tgt := 14) hx hb (by decide +kernel : decode cX0_init 35 = .ok (.goto (-21), 3)) rfl ?_
  refine lv_iload_n hx hb (by decide +kernel : decode cX0_init 14 = .ok (.iload_n 1, 1)) rfl (lv_at hl 0 rfl) ?_
  refine lv_iconst (v := 4) hx hb (by decide +kernel : decode cX0_init 15 = .ok (.iconst 4, 1)) (by decide) ?_
  refine lv_icmp_ge (tgt := 38) hx hb (by decide +kernel : decode cX0_init 16 = .ok (.if_icmp .ge 22, 3)) rfl (fun q => absurd q (by decide)) (fun _ => ?_)
  refine lv_aload_n hx hb (by decide +kernel : decode cX0_init 19 = .ok (.aload_n 0, 1)) rfl (lv_at hl 1 rfl) ?_
  refine va_get (ci := 0) (v := .ref st) hx hb hts zin_1 hown hK hP 0 rfl rfl 0 (by decide) (hts _ zkw_28) (fun _ h9 => h9) rfl (by decide +kernel : decode cX0_init 20 = .ok (.getfield 11, 3)) ?_
  refine lv_iload_n hx hb (by decide +kernel : decode cX0_init 23 = .ok (.iload_n 1, 1)) rfl (lv_at hl 0 rfl) ?_
  refine va_new (ci := 3) (fs := [.int 0, .int 0, .null, .null, .null, .null, .null, .int 0, .null, .null, .null, .int 0, .null, .null, .int 0]) (C := RX3) (T := TX3) (N := 15) hx hb hts zin_4 tyX3 tyX3_ok hown (hts _ zkw_27) (hts _ zkw_17) (hts _ zkw_18) hK hP hD hS hA rfl zdef_3 (Nat.le_of_ble_eq_true rfl) (Nat.le_of_ble_eq_true rfl) (by decide +kernel : decode cX0_init 24 = .ok (.new 9, 3)) (fun s3 H hP hD hS => ?_)
  refine lv_dup hx hb (by decide +kernel : decode cX0_init 27 = .ok (.dup, 1)) rfl ?_
  refine zk_callN (ws := ((h0, .inr (0, [.ref st, .int 0, .int 0])) :: (st, .inl (cQ, 4, .inr (.inr (.inr (.inr (va_up (va_up (va_up (fun _ => none) (0 : Int32).toNatClampNeg (some s0)) (1 : Int32).toNatClampNeg (some s1)) (2 : Int32).toNatClampNeg (some s2))))))) :: ((zShw cI s0 a0 ++ zShw cI s1 a1) ++ zShw cI s2 a2))) (h := s3) (rest := [.ref s3, .int 3, .ref st]) S (k_3 l D cI cQ s3) zkw_29 zkw_20 zkw_21 zkw_18 rfl ⟨by decide +kernel, by decide +kernel⟩ (by decide +kernel) ⟨(Nat.le_of_ble_eq_true rfl), (Nat.le_of_ble_eq_true rfl)⟩ ⟨(Nat.le_of_ble_eq_true rfl), (Nat.le_of_ble_eq_true rfl)⟩ hl.1 (Nat.le_of_ble_eq_true rfl) (by decide +kernel : decode cX0_init 28 = .ok (.invokespecial 17, 3)) hK hN hO hP hD hS hA (fun w1 H locs hp hP hD hS => ?_)
  obtain ⟨a3, rfl⟩ := hp
  have hP : va_P D zcls ((h0, .inr (0, [.ref st, .int 0, .int 0])) :: (st, .inl (cQ, 4, .inr (.inr (.inr (.inr (va_up (va_up (va_up (fun _ => none) (0 : Int32).toNatClampNeg (some s0)) (1 : Int32).toNatClampNeg (some s1)) (2 : Int32).toNatClampNeg (some s2))))))) :: (((zShw cI s0 a0 ++ zShw cI s1 a1) ++ zShw cI s2 a2) ++ zShw cI s3 a3)) H := hP
  have hD : va_D _ ((h0, .inr (0, [.ref st, .int 0, .int 0])) :: (st, .inl (cQ, 4, .inr (.inr (.inr (.inr (va_up (va_up (va_up (fun _ => none) (0 : Int32).toNatClampNeg (some s0)) (1 : Int32).toNatClampNeg (some s1)) (2 : Int32).toNatClampNeg (some s2))))))) :: (((zShw cI s0 a0 ++ zShw cI s1 a1) ++ zShw cI s2 a2) ++ zShw cI s3 a3)) := hD
  refine va_astq (n := 4) (cA := cQ) (r := (RX3, TX3, 15)) (f := (va_up (va_up (va_up (fun _ => none) (0 : Int32).toNatClampNeg (some s0)) (1 : Int32).toNatClampNeg (some s1)) (2 : Int32).toNatClampNeg (some s2))) hx hb hK hP hD hS 1 1 35 3 rfl rfl rfl rfl (zvpin (by decide)) (by decide +kernel : decode cX0_init 31 = .ok (.aastore, 1)) (fun H locs hP hD hS => ?_)
  have hP : va_P D zcls ((h0, .inr (0, [.ref st, .int 0, .int 0])) :: (st, .inl (cQ, 4, .inr (.inr (.inr (.inr (va_up (va_up (va_up (va_up (fun _ => none) (0 : Int32).toNatClampNeg (some s0)) (1 : Int32).toNatClampNeg (some s1)) (2 : Int32).toNatClampNeg (some s2)) (3 : Int32).toNatClampNeg (some s3))))))) :: (((zShw cI s0 a0 ++ zShw cI s1 a1) ++ zShw cI s2 a2) ++ zShw cI s3 a3)) H := hP
  have hD : va_D _ ((h0, .inr (0, [.ref st, .int 0, .int 0])) :: (st, .inl (cQ, 4, .inr (.inr (.inr (.inr (va_up (va_up (va_up (va_up (fun _ => none) (0 : Int32).toNatClampNeg (some s0)) (1 : Int32).toNatClampNeg (some s1)) (2 : Int32).toNatClampNeg (some s2)) (3 : Int32).toNatClampNeg (some s3))))))) :: (((zShw cI s0 a0 ++ zShw cI s1 a1) ++ zShw cI s2 a2) ++ zShw cI s3 a3)) := hD
  refine lv_iinc (v := 4) (lv' := [(1, .int 4), (0, .ref h0)]) hx hb (by decide +kernel : decode cX0_init 32 = .ok (.iinc 1 1, 3)) hl (k := 0) rfl (by decide) (by decide) rfl (fun ls hl => ?_)
  refine lv_goto (tgt := 14) hx hb (by decide +kernel : decode cX0_init 35 = .ok (.goto (-21), 3)) rfl ?_
  refine lv_iload_n hx hb (by decide +kernel : decode cX0_init 14 = .ok (.iload_n 1, 1)) rfl (lv_at hl 0 rfl) ?_
  refine lv_iconst (v := 4) hx hb (by decide +kernel : decode cX0_init 15 = .ok (.iconst 4, 1)) (by decide) ?_
  refine lv_icmp_ge (tgt := 38) hx hb (by decide +kernel : decode cX0_init 16 = .ok (.if_icmp .ge 22, 3)) rfl (fun _ => ?_) (fun q => absurd (by decide) q)
  exact zk_end hX ⟨st, _, s0, s1, s2, s3, a0, a1, a2, a3, ⟨rfl, rfl, rfl, rfl⟩, rfl⟩ hP hD hS ⟨(Nat.le_of_ble_eq_true rfl), (Nat.le_of_ble_eq_true rfl)⟩ (by decide +kernel : decode cX0_init 38 = .ok (.return_, 1))
theorem zkw_30 : Cond.methodLink RX4 3 objectInit ∈ zWL := zwl 63 (by decide +kernel) rfl
theorem zkw_31 : Cond.classLink RX4 9 RX2 ∈ zWL := zwl 66 (by decide +kernel) rfl
theorem zkw_32 : Cond.instantiable RX2 4 ∈ zWL := zwl 67 (by decide +kernel) rfl
theorem zkw_33 : Cond.initialized RX2 ∈ zWL := zwl 46 (by decide +kernel) rfl
theorem zkw_34 : Cond.methodLinkNest RX4 11 yX2_init "RepairShop" ∈ zNL := znl 68 (by decide +kernel) rfl
theorem zkw_35 : Cond.code yX2_init cX2_init 1 none ∈ zWL := zwl 70 (by decide +kernel) rfl
theorem zkw_36 : Cond.instanceMethod yX2_init ∈ zWL := zwl 69 (by decide +kernel) rfl
theorem zkw_37 : Cond.fieldLink RX4 12 RX4 "planner" "LRepairShop$Planner;" ∈ zWL := zwl 203 (by decide +kernel) rfl
theorem zkw_38 : Cond.fieldLinkNest RX4 16 RX2 "shop" "LRepairShop$Shop;" "RepairShop" ∈ zNL := znl 146 (by decide +kernel) rfl
theorem zkw_39 : Cond.fieldLink RX4 20 RX4 "shop" "LRepairShop$Shop;" ∈ zWL := zwl 204 (by decide +kernel) rfl
theorem zkw_40 : Cond.classLink RX4 21 RX0 ∈ zWL := zwl 159 (by decide +kernel) rfl
theorem zkw_41 : Cond.instantiable RX0 3 ∈ zWL := zwl 160 (by decide +kernel) rfl
theorem zkw_42 : Cond.initialized RX0 ∈ zWL := zwl 48 (by decide +kernel) rfl
theorem zkw_43 : Cond.methodLinkNest RX4 23 yX0_init "RepairShop" ∈ zNL := znl 161 (by decide +kernel) rfl
theorem zkw_44 : Cond.code yX0_init cX0_init 2 none ∈ zWL := zwl 163 (by decide +kernel) rfl
theorem zkw_45 : Cond.instanceMethod yX0_init ∈ zWL := zwl 162 (by decide +kernel) rfl
theorem zkw_46 : Cond.fieldLink RX4 24 RX4 "history" "LRepairShop$History;" ∈ zWL := zwl 205 (by decide +kernel) rfl
theorem zkw_47 : Cond.classLink RX4 28 RX1 ∈ zWL := zwl 178 (by decide +kernel) rfl
theorem zkw_48 : Cond.instantiable RX1 8 ∈ zWL := zwl 179 (by decide +kernel) rfl
theorem zkw_49 : Cond.initialized RX1 ∈ zWL := zwl 49 (by decide +kernel) rfl
theorem zkw_50 : Cond.methodLinkNest RX4 30 yX1_init "RepairShop" ∈ zNL := znl 180 (by decide +kernel) rfl
theorem zkw_51 : Cond.code yX1_init cX1_init 1 none ∈ zWL := zwl 182 (by decide +kernel) rfl
theorem zkw_52 : Cond.instanceMethod yX1_init ∈ zWL := zwl 181 (by decide +kernel) rfl
theorem zkw_53 : Cond.fieldLink RX4 31 RX4 "text" "LRepairShop$OrderText;" ∈ zWL := zwl 206 (by decide +kernel) rfl
theorem k_4 (l : Launch) (D : va_G) (cI cQ : ClassId) (h0 : Nat) : zKCon l D cI cQ yX4_init cX4_init 1 h0 (.inr (4, [.null, .null, .null, .null])) { frames := 3, cells := 63, slots := 1015, locals := 80 } (fun w => ∃ pl sh a d st fr hi ss f s0 s1 s2 s3 a0 a1 a2 a3 tx b, (f 0 = some s0 ∧ f 1 = some s1 ∧ f 2 = some s2 ∧ f 3 = some s3) ∧ w = (h0, .inr (4, [.ref pl, .ref sh, .ref hi, .ref tx])) :: ((zPlw cI pl sh a d st fr ++ zHiw cI cQ hi ss f s0 s1 s2 s3 a0 a1 a2 a3) ++ zTxw cI tx b)) := by
  refine zKCon_of (own := RX4) (by decide +kernel) rfl rfl (by decide) (fun p en s mid args below meth c hX ls hl => ?_)
  obtain ⟨S, hr, hlk, hN, hO, hK, hP, hD, hin⟩ := id hX
  have hx := S.1
  have hb := S.2.1
  have hown := S.2.2.2.1
  have hts := S.2.2.2.2
  have hS : va_S (va_A [(h0, .inr (4, [.null, .null, .null, .null]))] s.heap.size) s.heap s.heap [] := va_S.rf
  have hA : ∀ q : Nat, s.heap.size ≤ q → va_A [(h0, .inr (4, [.null, .null, .null, .null]))] s.heap.size q := fun q h => Or.inr h
  refine lv_aload_n hx hb (by decide +kernel : decode cX4_init 0 = .ok (.aload_n 0, 1)) rfl (lv_at hl 0 rfl) ?_
  refine W.objInit hx hb hown (hts _ zkw_30) (hts _ zko1) (hts _ zko2) rfl (by rw [S.2.2.1]; exact hl.1) rfl (by decide +kernel : decode cX4_init 1 = .ok (.invokespecial 3, 3)) (Nat.le_of_ble_eq_true rfl) (Nat.le_of_ble_eq_true rfl) ?_
  refine lv_aload_n hx hb (by decide +kernel : decode cX4_init 4 = .ok (.aload_n 0, 1)) rfl (lv_at hl 0 rfl) ?_
  refine va_new (ci := 2) (fs := [.null, .null, .null, .null]) (C := RX2) (T := TX2) (N := 4) hx hb hts zin_3 tyX2 tyX2_ok hown (hts _ zkw_31) (hts _ zkw_32) (hts _ zkw_33) hK hP hD hS hA rfl zdef_2 (Nat.le_of_ble_eq_true rfl) (Nat.le_of_ble_eq_true rfl) (by decide +kernel : decode cX4_init 5 = .ok (.new 9, 3)) (fun pl H hP hD hS => ?_)
  refine lv_dup hx hb (by decide +kernel : decode cX4_init 8 = .ok (.dup, 1)) rfl ?_
  refine zk_callN (ws := [(h0, .inr (4, [.null, .null, .null, .null]))]) (h := pl) (rest := [.ref pl, .ref h0]) S (k_2 l D cI cQ pl) zkw_34 zkw_35 zkw_36 zkw_33 rfl ⟨by decide +kernel, by decide +kernel⟩ (by decide +kernel) ⟨(Nat.le_of_ble_eq_true rfl), (Nat.le_of_ble_eq_true rfl)⟩ ⟨(Nat.le_of_ble_eq_true rfl), (Nat.le_of_ble_eq_true rfl)⟩ hl.1 (Nat.le_of_ble_eq_true rfl) (by decide +kernel : decode cX4_init 9 = .ok (.invokespecial 11, 3)) hK hN hO hP hD hS hA (fun w1 H locs hp hP hD hS => ?_)
  obtain ⟨sh, a, d, st, fr, rfl⟩ := hp
  have hP : va_P D zcls ((h0, .inr (4, [.null, .null, .null, .null])) :: zPlw cI pl sh a d st fr) H := hP
  have hD : va_D _ ((h0, .inr (4, [.null, .null, .null, .null])) :: zPlw cI pl sh a d st fr) := hD
  refine va_putF (ci := 4) (v := .ref pl) (ty := .object RX2) hx hb hts zin_5 tyX4 tyX4_ok nmX4 hown hK hP hD hS 0 rfl rfl 0 (by decide) (hts _ zkw_37) (fun _ h9 => h9) rfl hin rfl (by decide +kernel) rfl rfl (Nat.le_of_ble_eq_true rfl) (by decide +kernel : decode cX4_init 12 = .ok (.putfield 12, 3)) (fun H locs hP hD hS => ?_)
  have hP : va_P D zcls ((h0, .inr (4, [.ref pl, .null, .null, .null])) :: zPlw cI pl sh a d st fr) H := hP
  have hD : va_D _ ((h0, .inr (4, [.ref pl, .null, .null, .null])) :: zPlw cI pl sh a d st fr) := hD
  refine lv_aload_n hx hb (by decide +kernel : decode cX4_init 15 = .ok (.aload_n 0, 1)) rfl (lv_at hl 0 rfl) ?_
  refine lv_aload_n hx hb (by decide +kernel : decode cX4_init 16 = .ok (.aload_n 0, 1)) rfl (lv_at hl 0 rfl) ?_
  refine va_get (ci := 4) (v := .ref pl) hx hb hts zin_5 hown hK hP 0 rfl rfl 0 (by decide) (hts _ zkw_37) (fun _ h9 => h9) rfl (by decide +kernel : decode cX4_init 17 = .ok (.getfield 12, 3)) ?_
  refine va_getN (ci := 2) (v := .ref sh) hx hb hts zin_3 hown hK hP 1 rfl rfl 0 (by decide) (va_Nw.use rfl (hN _ zkw_38)) (fun _ h9 => h9) rfl (by decide +kernel : decode cX4_init 20 = .ok (.getfield 16, 3)) ?_
  refine va_putF (ci := 4) (v := .ref sh) (ty := .object RX3) hx hb hts zin_5 tyX4 tyX4_ok nmX4 hown hK hP hD hS 0 rfl rfl 1 (by decide) (hts _ zkw_39) (fun _ h9 => h9) rfl hin rfl (by decide +kernel) rfl rfl (Nat.le_of_ble_eq_true rfl) (by decide +kernel : decode cX4_init 23 = .ok (.putfield 20, 3)) (fun H locs hP hD hS => ?_)
  have hP : va_P D zcls ((h0, .inr (4, [.ref pl, .ref sh, .null, .null])) :: zPlw cI pl sh a d st fr) H := hP
  have hD : va_D _ ((h0, .inr (4, [.ref pl, .ref sh, .null, .null])) :: zPlw cI pl sh a d st fr) := hD
  refine lv_aload_n hx hb (by decide +kernel : decode cX4_init 26 = .ok (.aload_n 0, 1)) rfl (lv_at hl 0 rfl) ?_
  refine va_new (ci := 0) (fs := [.null, .int 0, .int 0]) (C := RX0) (T := TX0) (N := 3) hx hb hts zin_1 tyX0 tyX0_ok hown (hts _ zkw_40) (hts _ zkw_41) (hts _ zkw_42) hK hP hD hS hA rfl zdef_0 (Nat.le_of_ble_eq_true rfl) (Nat.le_of_ble_eq_true rfl) (by decide +kernel : decode cX4_init 27 = .ok (.new 21, 3)) (fun hi H hP hD hS => ?_)
  refine lv_dup hx hb (by decide +kernel : decode cX4_init 30 = .ok (.dup, 1)) rfl ?_
  refine zk_callN (ws := ((h0, .inr (4, [.ref pl, .ref sh, .null, .null])) :: zPlw cI pl sh a d st fr)) (h := hi) (rest := [.ref hi, .ref h0]) S (k_0 l D cI cQ hi) zkw_43 zkw_44 zkw_45 zkw_42 rfl ⟨by decide +kernel, by decide +kernel⟩ (by decide +kernel) ⟨(Nat.le_of_ble_eq_true rfl), (Nat.le_of_ble_eq_true rfl)⟩ ⟨(Nat.le_of_ble_eq_true rfl), (Nat.le_of_ble_eq_true rfl)⟩ hl.1 (Nat.le_of_ble_eq_true rfl) (by decide +kernel : decode cX4_init 31 = .ok (.invokespecial 23, 3)) hK hN hO hP hD hS hA (fun w1 H locs hp hP hD hS => ?_)
  obtain ⟨ss, f, s0, s1, s2, s3, a0, a1, a2, a3, hf, rfl⟩ := hp
  have hP : va_P D zcls ((h0, .inr (4, [.ref pl, .ref sh, .null, .null])) :: (zPlw cI pl sh a d st fr ++ zHiw cI cQ hi ss f s0 s1 s2 s3 a0 a1 a2 a3)) H := hP
  have hD : va_D _ ((h0, .inr (4, [.ref pl, .ref sh, .null, .null])) :: (zPlw cI pl sh a d st fr ++ zHiw cI cQ hi ss f s0 s1 s2 s3 a0 a1 a2 a3)) := hD
  refine va_putF (ci := 4) (v := .ref hi) (ty := .object RX0) hx hb hts zin_5 tyX4 tyX4_ok nmX4 hown hK hP hD hS 0 rfl rfl 2 (by decide) (hts _ zkw_46) (fun _ h9 => h9) rfl hin rfl (by decide +kernel) rfl rfl (Nat.le_of_ble_eq_true rfl) (by decide +kernel : decode cX4_init 34 = .ok (.putfield 24, 3)) (fun H locs hP hD hS => ?_)
  have hP : va_P D zcls ((h0, .inr (4, [.ref pl, .ref sh, .ref hi, .null])) :: (zPlw cI pl sh a d st fr ++ zHiw cI cQ hi ss f s0 s1 s2 s3 a0 a1 a2 a3)) H := hP
  have hD : va_D _ ((h0, .inr (4, [.ref pl, .ref sh, .ref hi, .null])) :: (zPlw cI pl sh a d st fr ++ zHiw cI cQ hi ss f s0 s1 s2 s3 a0 a1 a2 a3)) := hD
  refine lv_aload_n hx hb (by decide +kernel : decode cX4_init 37 = .ok (.aload_n 0, 1)) rfl (lv_at hl 0 rfl) ?_
  refine va_new (ci := 1) (fs := [.null, .int 0, .int 0, .int 0, .int 0, .int 0, .int 0, .int 0]) (C := RX1) (T := TX1) (N := 8) hx hb hts zin_2 tyX1 tyX1_ok hown (hts _ zkw_47) (hts _ zkw_48) (hts _ zkw_49) hK hP hD hS hA rfl zdef_1 (Nat.le_of_ble_eq_true rfl) (Nat.le_of_ble_eq_true rfl) (by decide +kernel : decode cX4_init 38 = .ok (.new 28, 3)) (fun tx H hP hD hS => ?_)
  refine lv_dup hx hb (by decide +kernel : decode cX4_init 41 = .ok (.dup, 1)) rfl ?_
  refine zk_callN (ws := ((h0, .inr (4, [.ref pl, .ref sh, .ref hi, .null])) :: (zPlw cI pl sh a d st fr ++ zHiw cI cQ hi ss f s0 s1 s2 s3 a0 a1 a2 a3))) (h := tx) (rest := [.ref tx, .ref h0]) S (k_1 l D cI cQ tx) zkw_50 zkw_51 zkw_52 zkw_49 rfl ⟨by decide +kernel, by decide +kernel⟩ (by decide +kernel) ⟨(Nat.le_of_ble_eq_true rfl), (Nat.le_of_ble_eq_true rfl)⟩ ⟨(Nat.le_of_ble_eq_true rfl), (Nat.le_of_ble_eq_true rfl)⟩ hl.1 (Nat.le_of_ble_eq_true rfl) (by decide +kernel : decode cX4_init 42 = .ok (.invokespecial 30, 3)) hK hN hO hP hD hS hA (fun w1 H locs hp hP hD hS => ?_)
  obtain ⟨b, rfl⟩ := hp
  have hP : va_P D zcls ((h0, .inr (4, [.ref pl, .ref sh, .ref hi, .null])) :: ((zPlw cI pl sh a d st fr ++ zHiw cI cQ hi ss f s0 s1 s2 s3 a0 a1 a2 a3) ++ zTxw cI tx b)) H := hP
  have hD : va_D _ ((h0, .inr (4, [.ref pl, .ref sh, .ref hi, .null])) :: ((zPlw cI pl sh a d st fr ++ zHiw cI cQ hi ss f s0 s1 s2 s3 a0 a1 a2 a3) ++ zTxw cI tx b)) := hD
  refine va_putF (ci := 4) (v := .ref tx) (ty := .object RX1) hx hb hts zin_5 tyX4 tyX4_ok nmX4 hown hK hP hD hS 0 rfl rfl 3 (by decide) (hts _ zkw_53) (fun _ h9 => h9) rfl hin rfl (by decide +kernel) rfl rfl (Nat.le_of_ble_eq_true rfl) (by decide +kernel : decode cX4_init 45 = .ok (.putfield 31, 3)) (fun H locs hP hD hS => ?_)
  have hP : va_P D zcls ((h0, .inr (4, [.ref pl, .ref sh, .ref hi, .ref tx])) :: ((zPlw cI pl sh a d st fr ++ zHiw cI cQ hi ss f s0 s1 s2 s3 a0 a1 a2 a3) ++ zTxw cI tx b)) H := hP
  have hD : va_D _ ((h0, .inr (4, [.ref pl, .ref sh, .ref hi, .ref tx])) :: ((zPlw cI pl sh a d st fr ++ zHiw cI cQ hi ss f s0 s1 s2 s3 a0 a1 a2 a3) ++ zTxw cI tx b)) := hD
  exact zk_end hX ⟨pl, sh, a, d, st, fr, hi, ss, f, s0, s1, s2, s3, a0, a1, a2, a3, tx, b, hf, rfl⟩ hP hD hS ⟨(Nat.le_of_ble_eq_true rfl), (Nat.le_of_ble_eq_true rfl)⟩ (by decide +kernel : decode cX4_init 48 = .ok (.return_, 1))
