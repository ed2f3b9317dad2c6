/-! ===== 75: the law's loop ===== -/
theorem lc_sw {p : Program} {l : Launch} {e : Env} {s : State} {m : MethodId} {below : List Frame} {meth : Method} {c : Code} {b L : Nat} {xs : Nat → Int32} {D : va_G} {A : Nat → Nat} {cI cQ cL : ClassId} {o i : Nat} {B : Int} {Q : State → Prop} {d : Drawn} {σ : zSt} {f : Nat → Int64} {H : Heap} {locs : List Loc} {ls : Array Slot} {cells slots : Nat} (hX : zLx p s m meth c b L xs D cI cQ cL) (hfl : l.stackTraces = false) (hL : L ≤ 2048) (hi : i + 3 < L) (hB : 2000 ≤ B ∧ B ≤ 500000) (hs : zLs s D A cI cQ cL o d σ f H locs) (hI : Inv σ B) (hl : lv_has ls 9 (zLv b A o i)) (hc : cells ≤ 100 + i) (hsl : slots ≤ 4000 + 6 * i) (K : zNx p l e s m below meth c b D A cI cQ cL o i B Q) (y : Int32) :
    W p l e room_1 (s.setDrawn d) m #[Value.ref b] below meth c H locs cells slots Q (F0 m 39 ls [.int y]) := by
  have S := hX.S d
  have hx := S.1
  have hb := S.2.1
  by_cases h : y.toInt < 0 ∨ 27 < y.toInt
  · refine lv_tableOut (tgt := 1568) hx hb (by decide +kernel : decode code 39 = .ok (.tableswitch 1529 0 27 #[125, 181, 249, 329, 409, 453, 509, 553, 621, 665, 733, 801, 869, 949, 1017, 1073, 1086, 1154, 1210, 1223, 1236, 1292, 1348, 1389, 1445, 1458, 1471, 1515], 125)) h (by decide) ?_
    exact K d σ f H locs ls cells slots hs (hI.up (by omega)) hl (by omega) (by omega)
  · have h1 : ¬ y.toInt < 0 := fun q => h (Or.inl q)
    have h2 : ¬ 27 < y.toInt := fun q => h (Or.inr q)
    have hk : y.toInt = 0 ∨ y.toInt = 1 ∨ y.toInt = 2 ∨ y.toInt = 3 ∨ y.toInt = 4 ∨ y.toInt = 5 ∨ y.toInt = 6 ∨ y.toInt = 7 ∨ y.toInt = 8 ∨ y.toInt = 9 ∨ y.toInt = 10 ∨ y.toInt = 11 ∨ y.toInt = 12 ∨ y.toInt = 13 ∨ y.toInt = 14 ∨ y.toInt = 15 ∨ y.toInt = 16 ∨ y.toInt = 17 ∨ y.toInt = 18 ∨ y.toInt = 19 ∨ y.toInt = 20 ∨ y.toInt = 21 ∨ y.toInt = 22 ∨ y.toInt = 23 ∨ y.toInt = 24 ∨ y.toInt = 25 ∨ y.toInt = 26 ∨ y.toInt = 27 := by omega
    rcases hk with q | q | q | q | q | q | q | q | q | q | q | q | q | q | q | q | q | q | q | q | q | q | q | q | q | q | q | q
    · refine lv_tableIn (tgt := 164) (off := 125) hx hb (by decide +kernel : decode code 39 = .ok (.tableswitch 1529 0 27 #[125, 181, 249, 329, 409, 453, 509, 553, 621, 665, 733, 801, 869, 949, 1017, 1073, 1086, 1154, 1210, 1223, 1236, 1292, 1348, 1389, 1445, 1458, 1471, 1515], 125)) h1 h2 (by rw [q]; rfl) (by decide) ?_
      exact lc_0 hX hfl hL hi hB hs hI hl hc hsl K
    · refine lv_tableIn (tgt := 220) (off := 181) hx hb (by decide +kernel : decode code 39 = .ok (.tableswitch 1529 0 27 #[125, 181, 249, 329, 409, 453, 509, 553, 621, 665, 733, 801, 869, 949, 1017, 1073, 1086, 1154, 1210, 1223, 1236, 1292, 1348, 1389, 1445, 1458, 1471, 1515], 125)) h1 h2 (by rw [q]; rfl) (by decide) ?_
      exact lc_1 hX hfl hL hi hB hs hI hl hc hsl K
    · refine lv_tableIn (tgt := 288) (off := 249) hx hb (by decide +kernel : decode code 39 = .ok (.tableswitch 1529 0 27 #[125, 181, 249, 329, 409, 453, 509, 553, 621, 665, 733, 801, 869, 949, 1017, 1073, 1086, 1154, 1210, 1223, 1236, 1292, 1348, 1389, 1445, 1458, 1471, 1515], 125)) h1 h2 (by rw [q]; rfl) (by decide) ?_
      exact lc_2 hX hfl hL hi hB hs hI hl hc hsl K
    · refine lv_tableIn (tgt := 368) (off := 329) hx hb (by decide +kernel : decode code 39 = .ok (.tableswitch 1529 0 27 #[125, 181, 249, 329, 409, 453, 509, 553, 621, 665, 733, 801, 869, 949, 1017, 1073, 1086, 1154, 1210, 1223, 1236, 1292, 1348, 1389, 1445, 1458, 1471, 1515], 125)) h1 h2 (by rw [q]; rfl) (by decide) ?_
      exact lc_3 hX hfl hL hi hB hs hI hl hc hsl K
    · refine lv_tableIn (tgt := 448) (off := 409) hx hb (by decide +kernel : decode code 39 = .ok (.tableswitch 1529 0 27 #[125, 181, 249, 329, 409, 453, 509, 553, 621, 665, 733, 801, 869, 949, 1017, 1073, 1086, 1154, 1210, 1223, 1236, 1292, 1348, 1389, 1445, 1458, 1471, 1515], 125)) h1 h2 (by rw [q]; rfl) (by decide) ?_
      exact lc_4 hX hfl hL hi hB hs hI hl hc hsl K
    · refine lv_tableIn (tgt := 492) (off := 453) hx hb (by decide +kernel : decode code 39 = .ok (.tableswitch 1529 0 27 #[125, 181, 249, 329, 409, 453, 509, 553, 621, 665, 733, 801, 869, 949, 1017, 1073, 1086, 1154, 1210, 1223, 1236, 1292, 1348, 1389, 1445, 1458, 1471, 1515], 125)) h1 h2 (by rw [q]; rfl) (by decide) ?_
      exact lc_5 hX hfl hL hi hB hs hI hl hc hsl K
    · refine lv_tableIn (tgt := 548) (off := 509) hx hb (by decide +kernel : decode code 39 = .ok (.tableswitch 1529 0 27 #[125, 181, 249, 329, 409, 453, 509, 553, 621, 665, 733, 801, 869, 949, 1017, 1073, 1086, 1154, 1210, 1223, 1236, 1292, 1348, 1389, 1445, 1458, 1471, 1515], 125)) h1 h2 (by rw [q]; rfl) (by decide) ?_
      exact lc_6 hX hfl hL hi hB hs hI hl hc hsl K
    · refine lv_tableIn (tgt := 592) (off := 553) hx hb (by decide +kernel : decode code 39 = .ok (.tableswitch 1529 0 27 #[125, 181, 249, 329, 409, 453, 509, 553, 621, 665, 733, 801, 869, 949, 1017, 1073, 1086, 1154, 1210, 1223, 1236, 1292, 1348, 1389, 1445, 1458, 1471, 1515], 125)) h1 h2 (by rw [q]; rfl) (by decide) ?_
      exact lc_7 hX hfl hL hi hB hs hI hl hc hsl K
    · refine lv_tableIn (tgt := 660) (off := 621) hx hb (by decide +kernel : decode code 39 = .ok (.tableswitch 1529 0 27 #[125, 181, 249, 329, 409, 453, 509, 553, 621, 665, 733, 801, 869, 949, 1017, 1073, 1086, 1154, 1210, 1223, 1236, 1292, 1348, 1389, 1445, 1458, 1471, 1515], 125)) h1 h2 (by rw [q]; rfl) (by decide) ?_
      exact lc_8 hX hfl hL hi hB hs hI hl hc hsl K
    · refine lv_tableIn (tgt := 704) (off := 665) hx hb (by decide +kernel : decode code 39 = .ok (.tableswitch 1529 0 27 #[125, 181, 249, 329, 409, 453, 509, 553, 621, 665, 733, 801, 869, 949, 1017, 1073, 1086, 1154, 1210, 1223, 1236, 1292, 1348, 1389, 1445, 1458, 1471, 1515], 125)) h1 h2 (by rw [q]; rfl) (by decide) ?_
      exact lc_9 hX hfl hL hi hB hs hI hl hc hsl K
    · refine lv_tableIn (tgt := 772) (off := 733) hx hb (by decide +kernel : decode code 39 = .ok (.tableswitch 1529 0 27 #[125, 181, 249, 329, 409, 453, 509, 553, 621, 665, 733, 801, 869, 949, 1017, 1073, 1086, 1154, 1210, 1223, 1236, 1292, 1348, 1389, 1445, 1458, 1471, 1515], 125)) h1 h2 (by rw [q]; rfl) (by decide) ?_
      exact lc_10 hX hfl hL hi hB hs hI hl hc hsl K
    · refine lv_tableIn (tgt := 840) (off := 801) hx hb (by decide +kernel : decode code 39 = .ok (.tableswitch 1529 0 27 #[125, 181, 249, 329, 409, 453, 509, 553, 621, 665, 733, 801, 869, 949, 1017, 1073, 1086, 1154, 1210, 1223, 1236, 1292, 1348, 1389, 1445, 1458, 1471, 1515], 125)) h1 h2 (by rw [q]; rfl) (by decide) ?_
      exact lc_11 hX hfl hL hi hB hs hI hl hc hsl K
    · refine lv_tableIn (tgt := 908) (off := 869) hx hb (by decide +kernel : decode code 39 = .ok (.tableswitch 1529 0 27 #[125, 181, 249, 329, 409, 453, 509, 553, 621, 665, 733, 801, 869, 949, 1017, 1073, 1086, 1154, 1210, 1223, 1236, 1292, 1348, 1389, 1445, 1458, 1471, 1515], 125)) h1 h2 (by rw [q]; rfl) (by decide) ?_
      exact lc_12 hX hfl hL hi hB hs hI hl hc hsl K
    · refine lv_tableIn (tgt := 988) (off := 949) hx hb (by decide +kernel : decode code 39 = .ok (.tableswitch 1529 0 27 #[125, 181, 249, 329, 409, 453, 509, 553, 621, 665, 733, 801, 869, 949, 1017, 1073, 1086, 1154, 1210, 1223, 1236, 1292, 1348, 1389, 1445, 1458, 1471, 1515], 125)) h1 h2 (by rw [q]; rfl) (by decide) ?_
      exact lc_13 hX hfl hL hi hB hs hI hl hc hsl K
    · refine lv_tableIn (tgt := 1056) (off := 1017) hx hb (by decide +kernel : decode code 39 = .ok (.tableswitch 1529 0 27 #[125, 181, 249, 329, 409, 453, 509, 553, 621, 665, 733, 801, 869, 949, 1017, 1073, 1086, 1154, 1210, 1223, 1236, 1292, 1348, 1389, 1445, 1458, 1471, 1515], 125)) h1 h2 (by rw [q]; rfl) (by decide) ?_
      exact lc_14 hX hfl hL hi hB hs hI hl hc hsl K
    · refine lv_tableIn (tgt := 1112) (off := 1073) hx hb (by decide +kernel : decode code 39 = .ok (.tableswitch 1529 0 27 #[125, 181, 249, 329, 409, 453, 509, 553, 621, 665, 733, 801, 869, 949, 1017, 1073, 1086, 1154, 1210, 1223, 1236, 1292, 1348, 1389, 1445, 1458, 1471, 1515], 125)) h1 h2 (by rw [q]; rfl) (by decide) ?_
      exact lc_15 hX hfl hL hi hB hs hI hl hc hsl K
    · refine lv_tableIn (tgt := 1125) (off := 1086) hx hb (by decide +kernel : decode code 39 = .ok (.tableswitch 1529 0 27 #[125, 181, 249, 329, 409, 453, 509, 553, 621, 665, 733, 801, 869, 949, 1017, 1073, 1086, 1154, 1210, 1223, 1236, 1292, 1348, 1389, 1445, 1458, 1471, 1515], 125)) h1 h2 (by rw [q]; rfl) (by decide) ?_
      exact lc_16 hX hfl hL hi hB hs hI hl hc hsl K
    · refine lv_tableIn (tgt := 1193) (off := 1154) hx hb (by decide +kernel : decode code 39 = .ok (.tableswitch 1529 0 27 #[125, 181, 249, 329, 409, 453, 509, 553, 621, 665, 733, 801, 869, 949, 1017, 1073, 1086, 1154, 1210, 1223, 1236, 1292, 1348, 1389, 1445, 1458, 1471, 1515], 125)) h1 h2 (by rw [q]; rfl) (by decide) ?_
      exact lc_17 hX hfl hL hi hB hs hI hl hc hsl K
    · refine lv_tableIn (tgt := 1249) (off := 1210) hx hb (by decide +kernel : decode code 39 = .ok (.tableswitch 1529 0 27 #[125, 181, 249, 329, 409, 453, 509, 553, 621, 665, 733, 801, 869, 949, 1017, 1073, 1086, 1154, 1210, 1223, 1236, 1292, 1348, 1389, 1445, 1458, 1471, 1515], 125)) h1 h2 (by rw [q]; rfl) (by decide) ?_
      exact lc_18 hX hfl hL hi hB hs hI hl hc hsl K
    · refine lv_tableIn (tgt := 1262) (off := 1223) hx hb (by decide +kernel : decode code 39 = .ok (.tableswitch 1529 0 27 #[125, 181, 249, 329, 409, 453, 509, 553, 621, 665, 733, 801, 869, 949, 1017, 1073, 1086, 1154, 1210, 1223, 1236, 1292, 1348, 1389, 1445, 1458, 1471, 1515], 125)) h1 h2 (by rw [q]; rfl) (by decide) ?_
      exact lc_19 hX hfl hL hi hB hs hI hl hc hsl K
    · refine lv_tableIn (tgt := 1275) (off := 1236) hx hb (by decide +kernel : decode code 39 = .ok (.tableswitch 1529 0 27 #[125, 181, 249, 329, 409, 453, 509, 553, 621, 665, 733, 801, 869, 949, 1017, 1073, 1086, 1154, 1210, 1223, 1236, 1292, 1348, 1389, 1445, 1458, 1471, 1515], 125)) h1 h2 (by rw [q]; rfl) (by decide) ?_
      exact lc_20 hX hfl hL hi hB hs hI hl hc hsl K
    · refine lv_tableIn (tgt := 1331) (off := 1292) hx hb (by decide +kernel : decode code 39 = .ok (.tableswitch 1529 0 27 #[125, 181, 249, 329, 409, 453, 509, 553, 621, 665, 733, 801, 869, 949, 1017, 1073, 1086, 1154, 1210, 1223, 1236, 1292, 1348, 1389, 1445, 1458, 1471, 1515], 125)) h1 h2 (by rw [q]; rfl) (by decide) ?_
      exact lc_21 hX hfl hL hi hB hs hI hl hc hsl K
    · refine lv_tableIn (tgt := 1387) (off := 1348) hx hb (by decide +kernel : decode code 39 = .ok (.tableswitch 1529 0 27 #[125, 181, 249, 329, 409, 453, 509, 553, 621, 665, 733, 801, 869, 949, 1017, 1073, 1086, 1154, 1210, 1223, 1236, 1292, 1348, 1389, 1445, 1458, 1471, 1515], 125)) h1 h2 (by rw [q]; rfl) (by decide) ?_
      exact lc_22 hX hfl hL hi hB hs hI hl hc hsl K
    · refine lv_tableIn (tgt := 1428) (off := 1389) hx hb (by decide +kernel : decode code 39 = .ok (.tableswitch 1529 0 27 #[125, 181, 249, 329, 409, 453, 509, 553, 621, 665, 733, 801, 869, 949, 1017, 1073, 1086, 1154, 1210, 1223, 1236, 1292, 1348, 1389, 1445, 1458, 1471, 1515], 125)) h1 h2 (by rw [q]; rfl) (by decide) ?_
      exact lc_23 hX hfl hL hi hB hs hI hl hc hsl K
    · refine lv_tableIn (tgt := 1484) (off := 1445) hx hb (by decide +kernel : decode code 39 = .ok (.tableswitch 1529 0 27 #[125, 181, 249, 329, 409, 453, 509, 553, 621, 665, 733, 801, 869, 949, 1017, 1073, 1086, 1154, 1210, 1223, 1236, 1292, 1348, 1389, 1445, 1458, 1471, 1515], 125)) h1 h2 (by rw [q]; rfl) (by decide) ?_
      exact lc_24 hX hfl hL hi hB hs hI hl hc hsl K
    · refine lv_tableIn (tgt := 1497) (off := 1458) hx hb (by decide +kernel : decode code 39 = .ok (.tableswitch 1529 0 27 #[125, 181, 249, 329, 409, 453, 509, 553, 621, 665, 733, 801, 869, 949, 1017, 1073, 1086, 1154, 1210, 1223, 1236, 1292, 1348, 1389, 1445, 1458, 1471, 1515], 125)) h1 h2 (by rw [q]; rfl) (by decide) ?_
      exact lc_25 hX hfl hL hi hB hs hI hl hc hsl K
    · refine lv_tableIn (tgt := 1510) (off := 1471) hx hb (by decide +kernel : decode code 39 = .ok (.tableswitch 1529 0 27 #[125, 181, 249, 329, 409, 453, 509, 553, 621, 665, 733, 801, 869, 949, 1017, 1073, 1086, 1154, 1210, 1223, 1236, 1292, 1348, 1389, 1445, 1458, 1471, 1515], 125)) h1 h2 (by rw [q]; rfl) (by decide) ?_
      exact lc_26 hX hfl hL hi hB hs hI hl hc hsl K
    · refine lv_tableIn (tgt := 1554) (off := 1515) hx hb (by decide +kernel : decode code 39 = .ok (.tableswitch 1529 0 27 #[125, 181, 249, 329, 409, 453, 509, 553, 621, 665, 733, 801, 869, 949, 1017, 1073, 1086, 1154, 1210, 1223, 1236, 1292, 1348, 1389, 1445, 1458, 1471, 1515], 125)) h1 h2 (by rw [q]; rfl) (by decide) ?_
      exact lc_27 hX hfl hL hi hB hs hI hl hc hsl K
/-- the loop's head -/
theorem law_head {p : Program} {l : Launch} {e : Env} {s : State} {m : MethodId} {below : List Frame} {meth : Method} {c : Code} {b L : Nat} {xs : Nat → Int32} {D : va_G} {A : Nat → Nat} {cI cQ cL : ClassId} {o i : Nat} {B : Int} {d : Drawn} {σ : zSt} {f : Nat → Int64} {H : Heap} {locs : List Loc} {ls : Array Slot} {cells slots : Nat} (hX : zLx p s m meth c b L xs D cI cQ cL) (hfl : l.stackTraces = false) (hL : L ≤ 2048) (hi : i ≤ 2060) (hB : 2000 ≤ B ∧ B ≤ 500000) (hs : zLs s D A cI cQ cL o d σ f H locs) (hI : Inv σ B) (hl : lv_has ls 9 (zLv b A o i)) (hc : cells ≤ 100 + i) (hsl : slots ≤ 4000 + 6 * i) (K : i + 3 < L → zNx p l e s m below meth c b D A cI cQ cL o i B (lw_Z below #[Value.ref b] s)) :
    W p l e room_1 (s.setDrawn d) m #[Value.ref b] below meth c H locs cells slots (lw_Z below #[Value.ref b] s) (F0 m 23 ls []) := by
  have S := hX.S d
  have hx := S.1
  have hb := S.2.1
  obtain ⟨hd, hσ, hP, hD, hS⟩ := id hs
  obtain ⟨⟨_, _, hr, _, _, _, hXa, hbl, hlocks, _⟩, _⟩ := id hX
  have hbA : ¬ zAA s b := fun q => Nat.lt_irrefl _ (Nat.lt_of_lt_of_le hbl q)
  have hl' : lv_has ls 9 [(0, .ref b), (1, .ref (A 0)), (2, .ref (A 9)), (3, .ref o), (4, .int (nI i))] := hl
  refine lv_iload hx hb (by decide +kernel : decode code 23 = .ok (.iload 4, 2)) (lv_at hl' 4 rfl) ?_
  refine lv_aload_n hx hb (by decide +kernel : decode code 25 = .ok (.aload_n 0, 1)) rfl (lv_at hl' 0 rfl) ?_
  refine va_slen (s := s.setDrawn d) (H0 := s.heap) hx hb hXa hbl hbA hS (by decide +kernel : decode code 26 = .ok (.arraylength, 1)) ?_
  refine lv_iconst (v := Int32.ofInt 4) hx hb (by decide +kernel : decode code 27 = .ok (.iconst 4, 1)) (by decide) ?_
  refine lv_isub hx hb (by decide +kernel : decode code 28 = .ok (.isub, 1)) ?_
  rw [← Int32.ofInt_eq_ofNat, ← Int32.ofInt_sub]
  have ei : nI i = Int32.ofInt (i : Int) := Int32.ofInt_eq_ofNat.symm
  rw [ei]
  refine lv_icmp_gt (tgt := 1574) hx hb (by decide +kernel : decode code 29 = .ok (.if_icmp .gt 1545, 3)) (by decide) (fun _ => ?_) (fun q => ?_)
  · refine lv_iconst (v := 1) hx hb (by decide +kernel : decode code 1574 = .ok (.iconst 1, 1)) (by decide) ?_
    refine va_forget (fun q hq => hS.2.2 q hq) ?_
    refine W.widen (k := 601024) (n := 7293034) (by omega) (by omega) ?_
    exact lw_ret hd hx hb hr hlocks (by decide +kernel : decode code 1575 = .ok (.ireturn, 1))
  · have q2 : i + 3 < L := by
      have h9 : ¬ ((L : Int) - 4 < (i : Int)) := fun z => q ((zof_lt ⟨by omega, by omega⟩ ⟨by omega, by omega⟩).mpr z)
      omega
    refine lv_aload_n hx hb (by decide +kernel : decode code 32 = .ok (.aload_n 0, 1)) rfl (lv_at hl' 0 rfl) ?_
    refine lv_iload hx hb (by decide +kernel : decode code 33 = .ok (.iload 4, 2)) (lv_at hl' 4 rfl) ?_
    refine va_sld (s := s.setDrawn d) (H0 := s.heap) hx hb (xs := xs) (L := L) hXa hbl hbA hS (vp_in_nI (by omega) (by omega)) (by decide +kernel : decode code 35 = .ok (.iaload, 1)) ?_
    refine lv_bipush (v := 31) hx hb (by decide +kernel : decode code 36 = .ok (.bipush 31, 2)) (by decide) ?_
    refine lv_iand hx hb (by decide +kernel : decode code 38 = .ok (.iand, 1)) ?_
    exact lc_sw hX hfl hL q2 hB hs hI hl hc hsl (K q2) _
theorem law_loop {p : Program} {l : Launch} {e : Env} {s : State} {m : MethodId} {below : List Frame} {meth : Method} {c : Code} {b L : Nat} {xs : Nat → Int32} {D : va_G} {A : Nat → Nat} {cI cQ cL : ClassId} {o : Nat} (hX : zLx p s m meth c b L xs D cI cQ cL) (hfl : l.stackTraces = false) (hL : L ≤ 2048) : ∀ (n i : Nat), L < i + n → i ≤ 2060 → ∀ (d : Drawn) (σ : zSt) (f : Nat → Int64) (H : Heap) (locs : List Loc) (ls : Array Slot) (cells slots : Nat), zLs s D A cI cQ cL o d σ f H locs → Inv σ (2000 + 150 * (i : Int)) → lv_has ls 9 (zLv b A o i) → cells ≤ 100 + i → slots ≤ 4000 + 6 * i →
    W p l e room_1 (s.setDrawn d) m #[Value.ref b] below meth c H locs cells slots (lw_Z below #[Value.ref b] s) (F0 m 23 ls []) := by
  intro n
  induction n with
  | zero =>
    intro i hn hi d σ f H locs ls cells slots hs hI hl hc hsl
    exact law_head hX hfl hL hi (by omega) hs hI hl hc hsl (fun q => absurd q (by omega))
  | succ n ih =>
    intro i hn hi d σ f H locs ls cells slots hs hI hl hc hsl
    refine law_head hX hfl hL hi (by omega) hs hI hl hc hsl (fun q => ?_)
    intro d1 σ1 f1 H1 locs1 ls1 cells1 slots1 hs1 hI1 hl1 hc1 hsl1
    have S := hX.S d1
    have hx := S.1
    have hb := S.2.1
    have hl1' : lv_has ls1 9 [(0, .ref b), (1, .ref (A 0)), (2, .ref (A 9)), (3, .ref o), (4, .int (nI i))] := hl1
    refine lv_iinc (v := nI (i + 4)) (lv' := [(4, .int (nI (i + 4))), (0, .ref b), (1, .ref (A 0)), (2, .ref (A 9)), (3, .ref o)]) hx hb (by decide +kernel : decode code 1568 = .ok (.iinc 4 4, 3)) hl1' (k := 4) rfl (by rw [← nI_add]; rfl) (by decide) rfl (fun ls hl => ?_)
    refine lv_goto (tgt := 23) hx hb (by decide +kernel : decode code 1571 = .ok (.goto (-1548), 3)) (by decide) ?_
    have hI2 : Inv σ1 (2000 + 150 * ((i + 4 : Nat) : Int)) := hI1.up (by omega)
    exact ih (i + 4) (by omega) (by omega) d1 σ1 f1 H1 locs1 ls cells1 slots1 hs1 hI2 (lv_sub hl [1, 2, 3, 4, 0] rfl) (by omega) (by omega)
