/-! ===== 68: the law's frame: what is known there, its reads of the script, the end of a case ===== -/
def zLx (p : Program) (s : State) (m : MethodId) (meth : Method) (c : Code) (b L : Nat) (xs : Nat → Int32) (D : va_G) (cI cQ cL : ClassId) : Prop :=
  lw_At p s m meth c b L xs ∧ va_K D zcls (zTl cI cQ cL) s ∧ zNst s ∧ zTv s ∧ zNc s ∧ zTs (fun q => s.heap.size ≤ q) s s.heap
abbrev zAA (s : State) : Nat → Prop := fun q => s.heap.size ≤ q
/-- the state of the law's walk -/
def zLs (s : State) (D : va_G) (A : Nat → Nat) (cI cQ cL : ClassId) (o : Nat) (d : Drawn) (σ : zSt) (f : Nat → Int64) (H : Heap) (locs : List Loc) : Prop :=
  s.drawn.sameBut d lw_cs ∧ zoks σ ∧ va_P D zcls (zLW A cI cQ cL o σ f) H ∧ va_D (zAA s) (zLW A cI cQ cL o σ f) ∧ va_S (zAA s) s.heap H locs
abbrev zLv (b : Nat) (A : Nat → Nat) (o i : Nat) : List (Nat × Value) := [(0, .ref b), (1, .ref (A 0)), (2, .ref (A 9)), (3, .ref o), (4, .int (nI i))]
section LAW
variable {p : Program} {l : Launch} {e : Env} {s : State} {m : MethodId} {below : List Frame} {meth : Method} {c : Code} {b L : Nat} {xs : Nat → Int32} {D : va_G} {A : Nat → Nat} {cI cQ cL : ClassId} {o i : Nat} {B : Int} {Q : State → Prop}
variable {d : Drawn} {σ : zSt} {f : Nat → Int64} {H : Heap} {locs : List Loc} {ls : Array Slot} {cells slots pc : Nat} {rest : List Value}
/-- what comes behind a case -/
def zNx (p : Program) (l : Launch) (e : Env) (s : State) (m : MethodId) (below : List Frame) (meth : Method) (c : Code) (b : Nat) (D : va_G) (A : Nat → Nat) (cI cQ cL : ClassId) (o i : Nat) (B : Int) (Q : State → Prop) : Prop :=
  ∀ (d : Drawn) (σ : zSt) (f : Nat → Int64) (H : Heap) (locs : List Loc) (ls : Array Slot) (cells slots : Nat), zLs s D A cI cQ cL o d σ f H locs → Inv σ (B + 600) → lv_has ls 9 (zLv b A o i) → cells ≤ 101 + i → slots ≤ 4006 + 6 * i → W p l e room_1 (s.setDrawn d) m #[Value.ref b] below meth c H locs cells slots Q (F0 m 1568 ls [])
theorem zLx.S (hX : zLx p s m meth c b L xs D cI cQ cL) (d : Drawn) : CallFix p m c code 9 (s.setDrawn d) #[Value.ref b] zWL RL := by
  obtain ⟨⟨h1, h2, h3, h4, h5, h6, h7⟩, _⟩ := hX
  exact ⟨h1, h2, h4, h5, dr_words (fun w hw => h6 w ((List.mem_filter.mp hw).1)) d⟩
theorem zLx.N (hX : zLx p s m meth c b L xs D cI cQ cL) (d : Drawn) : zNst (s.setDrawn d) := zNst_same (u := s) rfl hX.2.2.1
theorem zLx.K (hX : zLx p s m meth c b L xs D cI cQ cL) (d : Drawn) : va_K D zcls (zTl cI cQ cL) (s.setDrawn d) := va_K.moved (u := s) (U := s.setDrawn d) (Vm.Alike.refl s.vm) hX.2.1
theorem zLx.Tv (hX : zLx p s m meth c b L xs D cI cQ cL) (d : Drawn) : zTv (s.setDrawn d) := zTv_same (u := s) rfl hX.2.2.2.1
theorem zLx.Nc (hX : zLx p s m meth c b L xs D cI cQ cL) (d : Drawn) : zNc (s.setDrawn d) := zNc.moved (u := s) (U := s.setDrawn d) (Vm.Alike.refl s.vm) hX.2.2.2.2.1
theorem zLx.Ts (hX : zLx p s m meth c b L xs D cI cQ cL) (d : Drawn) (hS : va_S (zAA s) s.heap H locs) : zTs (zAA s) (s.setDrawn d) H := zTs.moved (u := s) (U := s.setDrawn d) (Vm.Alike.refl s.vm) (hX.2.2.2.2.2.kept (fun a h1 h2 => hS.2.1 a h1 h2))
/-- a read of the script -/
theorem zlsld (hX : zLx p s m meth c b L xs D cI cQ cL) (hS : va_S (zAA s) s.heap H locs) {j : Nat} (hj : i + j < L) (hL : L ≤ 2048) (hdg : decode code pc = .ok (.iaload, 1))
    (kk : W p l e room_1 (s.setDrawn d) m #[Value.ref b] below meth c H locs cells slots Q (F0 m (pc + 1) ls (.int (Int32.ofInt (xs (i + j)).toInt) :: rest))) :
    W p l e room_1 (s.setDrawn d) m #[Value.ref b] below meth c H locs cells slots Q (F0 m pc ls (.int (nI i + nI j) :: .ref b :: rest)) := by
  obtain ⟨⟨hx, hb, hr, hml, hown, hts, hXa, hbl, hlocks, hgv⟩, _⟩ := hX
  rw [nI_add]
  have hin : vp_in (nI (i + j)) L := vp_in_nI hj (by omega)
  refine va_sld (s := s.setDrawn d) (H0 := s.heap) hx hb (xs := xs) (L := L) hXa hbl (fun q => Nat.lt_irrefl _ (Nat.lt_of_lt_of_le hbl q)) hS hin hdg ?_
  rw [nI_clamp (by omega)]
  rw [Int32.ofInt_toInt] at kk
  exact kk
theorem thrown_con (l : Launch) (σ : zSt) (hσ : zoks σ) : zCon l 36 [zR 9] σ (some (zI (σ 9 0))) σ := zE_con l (X36_0 σ) zMk_36 (Nat.le_of_ble_eq_true rfl) (fun a ha => by rw [List.mem_singleton.mp ha]; trivial) hσ
theorem zlw_thr : Cond.methodLink RL 92 (zmY 36) ∈ zWL := zwl 929 (by decide +kernel) rfl
theorem zlw_thi : Cond.instanceMethod (zmY 36) ∈ zWL := of_decide_eq_true (by decide +kernel)
theorem zlw_ths : Cond.selects RX5 (zmY 36) (zmY 36) ∈ zWL := of_decide_eq_true (by decide +kernel)
/-- the end of a helper's case: thrown() against the helper's number, then the answers -/
theorem law_tail {p0 : Nat} {off : Int} (hX : zLx p s m meth c b L xs D cI cQ cL) (hi : i ≤ 2048)
    (d0 : decode code p0 = .ok (.istore 6, 2)) (d2 : decode code (p0 + 2) = .ok (.aload_n 2, 1)) (d3 : decode code (p0 + 3) = .ok (.invokevirtual 92, 3)) (d6 : decode code (p0 + 6) = .ok (.iload 5, 2)) (d8 : decode code (p0 + 8) = .ok (.if_icmp .eq 5, 3)) (d13 : decode code (p0 + 13) = .ok (.iload 5, 2)) (d15 : decode code (p0 + 15) = .ok (.ifCond .ne 15, 3)) (d18 : decode code (p0 + 18) = .ok (.aload_n 3, 1)) (d19 : decode code (p0 + 19) = .ok (.iconst 0, 1)) (d20 : decode code (p0 + 20) = .ok (.laload, 1)) (d21 : decode code (p0 + 21) = .ok (.iload 6, 2)) (d23 : decode code (p0 + 23) = .ok (.i2l, 1)) (d24 : decode code (p0 + 24) = .ok (.lcmp, 1)) (d25 : decode code (p0 + 25) = .ok (.ifCond .eq 5, 3)) (d30 : decode code (p0 + 30) = .ok (.goto off, 3)) (hoff : ((p0 + 30 : Nat) : Int) + off = ((1568 : Nat) : Int))
    {k v : Int} (hs : zLs s D A cI cQ cL o d σ f H locs) (hI : Inv σ (B + 600)) (hk : σ 9 0 = k) (hk3 : 0 ≤ k ∧ k ≤ 100) (hf : k = 0 → f 0 = zl v) (hl : lv_has ls 9 ((5, .int (Int32.ofInt k)) :: zLv b A o i)) (hc : cells ≤ 101 + i) (hsl : slots ≤ 4006 + 6 * i) (K : zNx p l e s m below meth c b D A cI cQ cL o i B Q) :
    W p l e room_1 (s.setDrawn d) m #[Value.ref b] below meth c H locs cells slots Q (F0 m p0 ls [.int (Int32.ofInt v)]) := by
  have S := hX.S d
  have hx := S.1
  have hb := S.2.1
  obtain ⟨hd, hσ, hP, hD, hS⟩ := hs
  have hl : lv_has ls 9 [(5, .int (Int32.ofInt k)), (0, .ref b), (1, .ref (A 0)), (2, .ref (A 9)), (3, .ref o), (4, .int (nI i))] := hl
  refine lv_istore (lv' := [(6, .int (Int32.ofInt v)), (5, .int (Int32.ofInt k)), (0, .ref b), (1, .ref (A 0)), (2, .ref (A 9)), (3, .ref o), (4, .int (nI i))]) hx hb d0 hl (by decide) rfl (fun ls hl => ?_)
  refine lv_aload_n hx hb d2 rfl (lv_at hl 4 rfl) ?_
  refine zlc_V (k := 9) (ci := 6) (n := 0) (as := []) (rest := []) (A0 := zAA s) S (thrown_con l σ hσ) (by decide) rfl rfl zlw_thr zlw_thi zlw_ths zMk_36 (by decide +kernel) rfl (by decide +kernel) (by decide +kernel) ⟨by show cells ≤ 601024; omega, by show slots ≤ 7293034; omega⟩ hl.1 (Nat.le_of_ble_eq_true rfl) d3 (hX.K d) (hX.N d) hP hD hS (fun q hq => hq) (fun H1 locs1 hP hD hS hok hvs _ => ?_)
  refine lv_iload hx hb d6 (lv_at hl 1 rfl) ?_
  have fin : ∀ H1 locs1 ls, va_P D zcls (zLW A cI cQ cL o σ f) H1 → va_D (zAA s) (zLW A cI cQ cL o σ f) → va_S (zAA s) s.heap H1 locs1 → lv_has ls 9 (zLv b A o i) → W p l e room_1 (s.setDrawn d) m #[Value.ref b] below meth c H1 locs1 cells slots Q (F0 m (p0 + 30) ls []) := by
    intro H1 locs1 ls hP hD hS hl
    refine lv_goto (tgt := 1568) hx hb d30 hoff ?_
    exact K d σ f H1 locs1 ls cells slots ⟨hd, hσ, hP, hD, hS⟩ hI hl hc hsl
  refine lv_icmp_eq (tgt := p0 + 13) hx hb d8 (by omega) (fun _ => ?_) (fun hne => absurd (by rw [hk]) hne)
  refine lv_iload hx hb d13 (lv_at hl 1 rfl) ?_
  refine lv_if_ne (tgt := p0 + 30) hx hb d15 (by omega) (fun _ => ?_) (fun hk0 => ?_)
  · exact fin H1 locs1 ls hP hD hS (lv_sub hl [2, 3, 4, 5, 6] rfl)
  · have hk0' : k = 0 := (zof_eq0 ⟨by omega, by omega⟩).mp hk0
    refine lv_aload_n hx hb d18 rfl (lv_at hl 5 rfl) ?_
    refine lv_iconst (v := 0) hx hb d19 (by decide) ?_
    refine va_lald (n := 1) (cA := cL) (f := f) hx hb (hX.K d) hP 69 2 zLW_out rfl zvp01 d20 ?_
    refine lv_iload hx hb d21 (lv_at hl 0 rfl) ?_
    refine lv_i2l (v := zl v) hx hb d23 rfl ?_
    refine W.lcmp hx hb d24 ?_
    refine lv_if_eq (tgt := p0 + 30) hx hb d25 (by omega) (fun _ => ?_) (fun hne => absurd ((lg_cmp_eq _ _).mpr (hf hk0')) hne)
    exact fin H1 locs1 ls hP hD hS (lv_sub hl [2, 3, 4, 5, 6] rfl)
end LAW
