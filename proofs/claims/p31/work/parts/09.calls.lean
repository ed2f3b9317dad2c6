/-! ===== 09: rows for switches, ends and calls ===== -/
theorem zS_tsw {m pc d len n : Nat} {l : List (Int × Nat)} {dflt lo hi : Int} {offs : Array Int} (hd : decode (zmB m) pc = .ok (.tableswitch dflt lo hi offs, len)) (hi2 : hi = lo + n - 1) (hin : ∀ i : Nat, i < n → (offs[i]?.map (fun off => (pc : Int) + off)) = some ((zsw (lo + i) l d : Nat) : Int)) (hout : ∀ x : Int, (x < lo ∨ hi < x) → zsw x l d = d) (hdf : (pc : Int) + dflt = (d : Int)) : zSnd m pc (o_sw l d) := by
  intro p l e R s mid args below meth c A A0 D cI cQ Q C L st σ r h
  obtain ⟨hx, hb, hml, hr, hlk, hown, hts, hN, hK, hA, hf, hlo⟩ := C
  simp only [o_sw] at h
  split at h
  · rename_i x st
    cases h
    intro G H locs ls hat hlh hwf
    have hxr : zr x := hwf.2.1 _ List.mem_cons_self
    have hx2 := zto hxr
    have hw2 : ∀ v ∈ st, zok v := fun v hv => hwf.2.1 v (List.mem_cons_of_mem _ hv)
    by_cases h1 : x < lo ∨ hi < x
    · refine lv_tableOut hx hb hd (by rw [hx2]; exact h1) hdf ?_
      have e := hout x h1
      rw [e] at G
      exact G H locs ls hat hlh ⟨hwf.1, hw2, hwf.2.2⟩
    · have h2 : (x - lo).toNat < n := by omega
      have h3 := hin _ h2
      cases ho : offs[(x - lo).toNat]? with
      | none => rw [ho] at h3; cases h3
      | some off =>
        rw [ho] at h3
        have e : lo + ((x - lo).toNat : Int) = x := by omega
        rw [e] at h3
        refine lv_tableIn hx hb hd (by rw [hx2]; omega) (by rw [hx2]; omega) (by rw [hx2]; exact ho) (Option.some.inj h3) ?_
        exact G H locs ls hat hlh ⟨hwf.1, hw2, hwf.2.2⟩
  · cases h
theorem zS_lsw {m pc d len : Nat} {l : List (Int × Nat)} {dflt : Int} {ps : Array (Int × Int)} (hd : decode (zmB m) pc = .ok (.lookupswitch dflt ps, len)) (hp : (ps.toList.zip (ps.toList.drop 1)).all (fun (a, next) => a.1 < next.1) = true) (hof : ∀ x : Int, (pc : Int) + Op.lookupswitch.offset ps.toList dflt x = ((zsw x l d : Nat) : Int)) : zSnd m pc (o_sw l d) := by
  intro p l e R s mid args below meth c A A0 D cI cQ Q C L st σ r h
  obtain ⟨hx, hb, hml, hr, hlk, hown, hts, hN, hK, hA, hf, hlo⟩ := C
  simp only [o_sw] at h
  split at h
  · rename_i x st
    cases h
    intro G H locs ls hat hlh hwf
    have hxr : zr x := hwf.2.1 _ List.mem_cons_self
    have hx2 := zto hxr
    have hw2 : ∀ v ∈ st, zok v := fun v hv => hwf.2.1 v (List.mem_cons_of_mem _ hv)
    refine lv_lookup hx hb hd hp rfl (by rw [hx2]; exact hof x) ?_
    exact G H locs ls hat hlh ⟨hwf.1, hw2, hwf.2.2⟩
  · cases h
theorem zS_ret {m pc : Nat} (hd : decode (zmB m) pc = .ok (.return_, 1)) (hr0 : zmR m = none) : zSnd m pc o_ret := by
  intro p l e R s mid args below meth c A A0 D cI cQ Q C L st σ r h
  obtain ⟨hx, hb, hml, hr, hlk, hown, hts, hN, hK, hA, hf, hlo⟩ := C
  simp only [o_ret] at h
  split at h
  · cases h
    exact ⟨rfl, rfl, hr0, hd⟩
  · cases h
theorem zS_iret {m pc : Nat} (hd : decode (zmB m) pc = .ok (.ireturn, 1)) (hr0 : zmR m = some .int) : zSnd m pc o_iret := by
  intro p l e R s mid args below meth c A A0 D cI cQ Q C L st σ r h
  obtain ⟨hx, hb, hml, hr, hlk, hown, hts, hN, hK, hA, hf, hlo⟩ := C
  simp only [o_iret] at h
  split at h
  · cases h
    exact ⟨rfl, rfl, Or.inl hr0, hd⟩
  · cases h
theorem zS_zret {m pc : Nat} (hd : decode (zmB m) pc = .ok (.ireturn, 1)) (hr0 : zmR m = some .boolean) : zSnd m pc o_zret := by
  intro p l e R s mid args below meth c A A0 D cI cQ Q C L st σ r h
  obtain ⟨hx, hb, hml, hr, hlk, hown, hts, hN, hK, hA, hf, hlo⟩ := C
  simp only [o_zret] at h
  split at h
  · split at h
    · rename_i h01
      cases h
      exact ⟨rfl, rfl, Or.inr ⟨hr0, h01⟩, hd⟩
    · cases h
  · cases h
theorem zS_lret {m pc : Nat} (hd : decode (zmB m) pc = .ok (.lreturn, 1)) (hr0 : zmR m = some .long) : zSnd m pc o_lret := by
  intro p l e R s mid args below meth c A A0 D cI cQ Q C L st σ r h
  obtain ⟨hx, hb, hml, hr, hlk, hown, hts, hN, hK, hA, hf, hlo⟩ := C
  simp only [o_lret] at h
  split at h
  · cases h
    exact ⟨rfl, rfl, hr0, hd⟩
  · cases h
theorem zS_thr {m pc k : Nat} (hk : k < 1000 := by decide) : zSnd m pc (o_thr k) := by
  intro p l e R s mid args below meth c A A0 D cI cQ Q C L st σ r h
  obtain ⟨hx, hb, hml, hr, hlk, hown, hts, hN, hK, hA, hf, hlo⟩ := C
  simp only [o_thr] at h
  split at h
  · cases h
    exact ⟨rfl, rfl, fun q => absurd q (by omega)⟩
  · cases h
theorem zS_stp {m pc : Nat} : zSnd m pc (o_stp pc) := by
  intro p l e R s mid args below meth c A A0 D cI cQ Q C L st σ r h
  simp only [o_stp] at h
  split at h
  · cases h
    exact ⟨rfl, rfl, fun _ => ⟨rfl, rfl⟩⟩
  · cases h
theorem zgood {w : Cond} (h : w ∈ zWL) : w ∈ zWL ∧ ((w.onTables && w.keeps) = true ∨ ∃ ty, w = .arrayClass ty) := ⟨h, good_of_word (List.mem_filter.mp h).2⟩
theorem zGoodIn {m : Nat} (h : zMok m) : GoodIn zWL (zmW m) := by
  intro w hw
  rcases List.mem_cons.mp hw with e | hw
  · subst e; exact zgood h.1.1
  · exact zgood hw
theorem zblind {as : List Value} {D : va_G} {A : Nat → Nat} {cI cQ : ClassId} {sz : Nat} {σ : zSt} : FrameBlind (va_Pc as (zPre D A cI cQ sz σ)) := by
  intro a U g mk q
  obtain ⟨q0, q1, qP, qK, qD, qN⟩ := q
  exact ⟨q0, q1, qP, va_K.moved (u := U) (U := U.calling g mk a) (Vm.Alike.refl U.vm) qK, qD, zNst_same (u := U) (U := U.calling g mk a) rfl qN⟩
theorem zrk_list {rk : Nat} {v : Option zVal} {vs : List zVal} (h : zrk rk v = some vs) : vs = v.toList := by
  unfold zrk at h
  split at h <;> first | (cases h; rfl) | cases h
section ZCALL
variable {p : Program} {l : Launch} {e : Env} {R : Room} {s : State} {mid : MethodId} {args : Array Value} {below : List Frame} {meth : Method} {c : Code} {H : Heap} {locs : List Loc} {cells slots : Nat} {Q : State → Prop}
theorem zfree {A : Nat → Nat} {A0 : Nat → Prop} {D : va_G} {cI cQ : ClassId} {σ : zSt} {H0 : Heap} (hat : zAt A A0 D cI cQ H0 H locs σ) (hA : ∀ q : Nat, H0.size ≤ q → A0 q) : ∀ q, va_A (zW A cI cQ σ) H.size q → A0 q := by
  intro q h
  rcases h with ⟨k, e, h⟩ | h
  · exact hat.2.1.2 k (q, e) h
  · exact hA q (Nat.le_trans hat.2.2.1 h)
theorem zcall_go {A : Nat → Nat} {A0 : Nat → Prop} {D : va_G} {cI cQ : ClassId} {σ σ1 : zSt} {v : Option zVal} {pc : Nat} {ls : Array Slot} {st0 rest : List Value} {av : Array Value}
    (hr : va_Run p l e R s mid args below meth c H locs cells slots 0 0 (F0 mid pc ls st0) rest (zPost D A cI cQ H.size σ v σ1 av) (va_A (zW A cI cQ σ) H.size)) (hat : zAt A A0 D cI cQ s.heap H locs σ) (hA : ∀ q : Nat, s.heap.size ≤ q → A0 q)
    (kk : ∀ (H1 : Heap) (locs1 : List Loc), zAt A A0 D cI cQ s.heap H1 locs1 σ1 → zoks σ1 → (∀ x ∈ v.toList, zok x) → W p l e R s mid args below meth c H1 locs1 cells slots Q (F0 mid (pc + 3) ls ((v.map (zv A)).toList ++ rest))) : W p l e R s mid args below meth c H locs cells slots Q (F0 mid pc ls st0) := by
  have hF := zfree hat hA
  obtain ⟨hP0, hD0, hS⟩ := hat
  intro T hT X
  obtain ⟨v', st₀, t, T', L, h0, X', hL, e1, e2, ⟨⟨hv, hP, hD, hok, hvo⟩, hz, hk⟩, st⟩ := hr T hT X
  cases hv
  rw [h0] at hz hk
  obtain ⟨t2, a1, b1⟩ := kk T'.heap (locs ++ L) ⟨by rw [e1]; exact hP, hD.weaken (fun _ _ _ h => hF _ h),
    ⟨Nat.le_trans hS.1 (by rw [e1]; exact hz), fun q h1 h2 => by rw [e1, hk q (Nat.lt_of_lt_of_le h1 hS.1) (fun z => h2 (hF q z))]; exact hS.2.1 q h1 h2, fun q hq => by
      rcases List.mem_append.mp hq with h | h
      · exact hS.2.2 q h
      · exact hF _ (hL q h)⟩⟩ hok hvo T' rfl X'
  exact ⟨t2, st t2 a1, b1⟩
theorem zpre {A : Nat → Nat} {A0 : Nat → Prop} {D : va_G} {cI cQ : ClassId} {σ : zSt} (hat : zAt A A0 D cI cQ s.heap H locs σ) (hK : va_K D zcls (ztys cI cQ) s) (hN : zNst s) (as : List Value) : ∀ U : State, U.heap = H → s.WarmedH U.vm → va_Pc as (zPre D A cI cQ H.size σ) as.toArray U := by
  intro U hU hW
  exact ⟨rfl, by rw [hU], by rw [hU]; exact hat.1, va_K.moved hW.alike hK, hat.2.1.weaken (fun _ _ _ _ => trivial), zNst_warm hW hN⟩
end ZCALL
theorem zS_callS {m pc m' n nl rk nx idx : Nat} (hd : decode (zmB m) pc = .ok (.invokestatic idx, 3)) (hn : nx = pc + 3) (hw : Cond.methodLink (zmY m).cls idx (zmY m') ∈ zWL) (hst : Cond.static (zmY m') ∈ zWL) (hnl : nl = zmX m') (hM : zMok m') (hpn : (parseMethodDescriptor (zmY m').desc).map (fun d => d.parameters.length) = some n) (hh : zmH m' + 1 ≤ zmH m) (hlc : 19 + zmX m' + 32 * zmH m' ≤ 32 * zmH m) : zSnd m pc (o_call m' n nl rk nx) := by
  subst hn
  intro p l e R s mid args below meth c A A0 D cI cQ Q C L st σ r h
  obtain ⟨hx, hb, hml, hr, hlk, hown, hts, hN, hK, hA, hf, hlo⟩ := C
  simp only [o_call] at h
  cases h1 : Nat.ble n st.length
  · rw [h1] at h; cases h
  cases h2 : Nat.ble (st.drop n).length 4
  · rw [h1, h2] at h; cases h
  cases h3 : Nat.ble (zlay (st.take n).reverse).length nl
  · rw [h1, h2, h3] at h; cases h
  rw [h1, h2, h3] at h
  have hn3 := Nat.le_of_ble_eq_true h3
  have hn1 := Nat.le_of_ble_eq_true h1
  have hn2 := Nat.le_of_ble_eq_true h2
  cases h
  refine ⟨hnl, hn3, hM, rfl, fun a ha => List.mem_of_mem_take (List.mem_reverse.mp ha), ?_⟩
  intro v σ1 vs hcon hrk G H locs ls hat hlh hwf
  have hvl := zrk_list hrk
  subst hvl
  have hcat := zcat_le (A := A) (st.drop n)
  have hstk : st.map (zv A) = (((st.take n).reverse).map (zv A)).reverse ++ (st.drop n).map (zv A) := by
    rw [List.map_reverse, List.reverse_reverse, ← List.map_append, List.take_append_drop]
  refine zcall_go (rest := (st.drop n).map (zv A)) (va_runS (As := ((st.take n).reverse).map (zv A)) (rest := (st.drop n).map (zv A)) ⟨hx, hb, hml, hown, hts⟩ (hcon D A cI cQ H.size) ⟨callB_of (ret := zmR m') n hts (zGoodIn hM) rfl rfl rfl (hts _ hM.1.2) (hts _ hw) ⟨hM.2.2.1, hM.2.2.2, hpn⟩ ⟨by show zmH m' + 1 ≤ _; omega, by show 8 + (zmX m' + 11) + 32 * zmH m' ≤ _; omega⟩, hts _ hst⟩ ⟨zblind, zpre hat hK hN _⟩ rfl (by simp; omega) hlh.2.1 hstk (lv_room (by omega)) hd ⟨Nat.le_refl _, Nat.le_refl _⟩) hat hA (fun H1 locs1 hat1 hσ1 hvs => ?_)
  have h9 := G H1 locs1 ls hat1 hlh ⟨hwf.1, fun x hx => by
    rcases List.mem_append.mp hx with q | q
    · exact hvs x q
    · exact hwf.2.1 x (List.mem_of_mem_drop q), hσ1⟩
  have e9 : (v.toList ++ st.drop n).map (zv A) = (v.map (zv A)).toList ++ (st.drop n).map (zv A) := by
    cases v <;> simp
  rw [← e9]
  exact h9
theorem zS_callV {m pc ci m' n n1 nl rk nx idx N : Nat} {C : String} {T : u_T} (hd : decode (zmB m) pc = .ok (.invokevirtual idx, 3)) (hn : nx = pc + 3) (hn1 : n1 = n + 1) (h0 : ci ≠ 0) (hc : zcls[ci - 1]? = some (C, T, N)) (hw : Cond.methodLink (zmY m).cls idx (zmY m') ∈ zWL) (hin : Cond.instanceMethod (zmY m') ∈ zWL) (hse : Cond.selects C (zmY m') (zmY m') ∈ zWL) (hnl : nl = zmX m') (hM : zMok m') (hpn : (parseMethodDescriptor (zmY m').desc).map (fun d => d.parameters.length) = some n) (hh : zmH m' + 1 ≤ zmH m) (hlc : 19 + zmX m' + 32 * zmH m' ≤ 32 * zmH m) : zSnd m pc (o_callv ci m' n1 nl rk nx) := by
  subst hn
  subst hn1
  intro p l e R s mid args below meth c A A0 D cI cQ Q C L st σ r h
  obtain ⟨hx, hb, hml, hr, hlk, hown, hts, hN, hK, hA, hf, hlo⟩ := C
  simp only [o_callv] at h
  split at h
  case h_2 => cases h
  rename_i k as has
  cases h0 : Nat.beq (zcl k) ci
  · rw [h0] at h; cases h
  cases h1 : Nat.ble (n + 1) st.length
  · rw [h0, h1] at h; cases h
  cases h2 : Nat.ble (st.drop (n + 1)).length 4
  · rw [h0, h1, h2] at h; cases h
  cases h3 : Nat.ble (zlay (zR k :: as)).length nl
  · rw [h0, h1, h2, h3] at h; cases h
  rw [h0, h1, h2, h3] at h
  have hn3 := Nat.le_of_ble_eq_true h3
  have hk := Nat.eq_of_beq_eq_true h0
  have hn1 := Nat.le_of_ble_eq_true h1
  have hn2 := Nat.le_of_ble_eq_true h2
  have hk0 : zcl k ≠ 0 := by rw [hk]; assumption
  have hk9 := zcl_lt hk0
  cases h
  refine ⟨hnl, hn3, hM, rfl, fun a ha => List.mem_of_mem_take (List.mem_reverse.mp (by rw [has]; exact ha)), ?_⟩
  intro v σ1 vs hcon hrk G H locs ls hat hlh hwf
  have hvl := zrk_list hrk
  subst hvl
  have hcat := zcat_le (A := A) (st.drop (n + 1))
  have htk : st.take (n + 1) = as.reverse ++ [zR k] := by
    have := congrArg List.reverse has
    simpa using this
  have hal : as.length = n := by
    have := congrArg List.length htk
    simp at this
    omega
  have hstk : st.map (zv A) = (as.map (zv A)).reverse ++ .ref (A k) :: (st.drop (n + 1)).map (zv A) := by
    conv => lhs; rw [← List.take_append_drop (n + 1) st]
    rw [htk]
    simp [zv]
  refine zcall_go (rest := (st.drop (n + 1)).map (zv A)) (va_runV (C := C) (b := A k) (As := as.map (zv A)) (rest := (st.drop (n + 1)).map (zv A)) ⟨hx, hb, hml, hown, hts⟩ (hcon D A cI cQ H.size) ⟨callB_of (ret := zmR m') n hts (zGoodIn hM) rfl rfl rfl (hts _ hM.1.2) (hts _ hw) ⟨hM.2.2.1, hM.2.2.2, hpn⟩ ⟨by show zmH m' + 1 ≤ _; omega, by show 8 + (zmX m' + 11) + 32 * zmH m' ≤ _; omega⟩, hts _ hin, hts _ hse⟩ ⟨zblind, va_recv hK hat.1 (ci := ci - 1) (q0 := k) hc (by rw [zW_get (by omega), zent_obj hk0, hk]), zpre hat hK hN (.ref (A k) :: as.map (zv A))⟩ rfl (by simp [hal]) hlh.2.1 hstk (lv_room (by omega)) hd ⟨Nat.le_refl _, Nat.le_refl _⟩) hat hA (fun H1 locs1 hat1 hσ1 hvs => ?_)
  have h9 := G H1 locs1 ls hat1 hlh ⟨hwf.1, fun x hx => by
    rcases List.mem_append.mp hx with q | q
    · exact hvs x q
    · exact hwf.2.1 x (List.mem_of_mem_drop q), hσ1⟩
  have e9 : (v.toList ++ st.drop (n + 1)).map (zv A) = (v.map (zv A)).toList ++ (st.drop (n + 1)).map (zv A) := by
    cases v <;> simp
  rw [← e9]
  exact h9
theorem zS_callSN {m pc m' n nl rk nx idx : Nat} (hd : decode (zmB m) pc = .ok (.invokestatic idx, 3)) (hn : nx = pc + 3) {host : String} (hw : Cond.methodLinkNest (zmY m).cls idx (zmY m') host ∈ zNL) (hst : Cond.static (zmY m') ∈ zWL) (hnl : nl = zmX m') (hM : zMok m') (hpn : (parseMethodDescriptor (zmY m').desc).map (fun d => d.parameters.length) = some n) (hh : zmH m' + 1 ≤ zmH m) (hlc : 19 + zmX m' + 32 * zmH m' ≤ 32 * zmH m) : zSnd m pc (o_call m' n nl rk nx) := by
  subst hn
  intro p l e R s mid args below meth c A A0 D cI cQ Q C L st σ r h
  obtain ⟨hx, hb, hml, hr, hlk, hown, hts, hN, hK, hA, hf, hlo⟩ := C
  simp only [o_call] at h
  cases h1 : Nat.ble n st.length
  · rw [h1] at h; cases h
  cases h2 : Nat.ble (st.drop n).length 4
  · rw [h1, h2] at h; cases h
  cases h3 : Nat.ble (zlay (st.take n).reverse).length nl
  · rw [h1, h2, h3] at h; cases h
  rw [h1, h2, h3] at h
  have hn3 := Nat.le_of_ble_eq_true h3
  have hn1 := Nat.le_of_ble_eq_true h1
  have hn2 := Nat.le_of_ble_eq_true h2
  cases h
  refine ⟨hnl, hn3, hM, rfl, fun a ha => List.mem_of_mem_take (List.mem_reverse.mp ha), ?_⟩
  intro v σ1 vs hcon hrk G H locs ls hat hlh hwf
  have hvl := zrk_list hrk
  subst hvl
  have hcat := zcat_le (A := A) (st.drop n)
  have hstk : st.map (zv A) = (((st.take n).reverse).map (zv A)).reverse ++ (st.drop n).map (zv A) := by
    rw [List.map_reverse, List.reverse_reverse, ← List.map_append, List.take_append_drop]
  refine zcall_go (rest := (st.drop n).map (zv A)) (va_runSN (As := ((st.take n).reverse).map (zv A)) (rest := (st.drop n).map (zv A)) ⟨hx, hb, hml, hown, hts⟩ (hcon D A cI cQ H.size) ⟨va_cnB (ret := zmR m') n hts (zGoodIn hM) rfl rfl rfl (hN _ hw) (hts _ hM.1.2) ⟨hM.2.2.1, hM.2.2.2, hpn⟩ ⟨by show zmH m' + 1 ≤ _; omega, by show 8 + (zmX m' + 11) + 32 * zmH m' ≤ _; omega⟩, hts _ hst, trivial⟩ ⟨zblind, zpre hat hK hN _⟩ rfl (by simp; omega) hlh.2.1 hstk (lv_room (by omega)) hd ⟨Nat.le_refl _, Nat.le_refl _⟩) hat hA (fun H1 locs1 hat1 hσ1 hvs => ?_)
  have h9 := G H1 locs1 ls hat1 hlh ⟨hwf.1, fun x hx => by
    rcases List.mem_append.mp hx with q | q
    · exact hvs x q
    · exact hwf.2.1 x (List.mem_of_mem_drop q), hσ1⟩
  have e9 : (v.toList ++ st.drop n).map (zv A) = (v.map (zv A)).toList ++ (st.drop n).map (zv A) := by
    cases v <;> simp
  rw [← e9]
  exact h9
theorem zS_callVN {m pc ci m' n n1 nl rk nx idx N : Nat} {C : String} {T : u_T} (hd : decode (zmB m) pc = .ok (.invokevirtual idx, 3)) (hn : nx = pc + 3) (hn1 : n1 = n + 1) (h0 : ci ≠ 0) (hc : zcls[ci - 1]? = some (C, T, N)) {host : String} (hw : Cond.methodLinkNest (zmY m).cls idx (zmY m') host ∈ zNL) (hin : Cond.instanceMethod (zmY m') ∈ zWL) (hse : Cond.selects C (zmY m') (zmY m') ∈ zWL) (hnl : nl = zmX m') (hM : zMok m') (hpn : (parseMethodDescriptor (zmY m').desc).map (fun d => d.parameters.length) = some n) (hh : zmH m' + 1 ≤ zmH m) (hlc : 19 + zmX m' + 32 * zmH m' ≤ 32 * zmH m) : zSnd m pc (o_callv ci m' n1 nl rk nx) := by
  subst hn
  subst hn1
  intro p l e R s mid args below meth c A A0 D cI cQ Q C L st σ r h
  obtain ⟨hx, hb, hml, hr, hlk, hown, hts, hN, hK, hA, hf, hlo⟩ := C
  simp only [o_callv] at h
  split at h
  case h_2 => cases h
  rename_i k as has
  cases h0 : Nat.beq (zcl k) ci
  · rw [h0] at h; cases h
  cases h1 : Nat.ble (n + 1) st.length
  · rw [h0, h1] at h; cases h
  cases h2 : Nat.ble (st.drop (n + 1)).length 4
  · rw [h0, h1, h2] at h; cases h
  cases h3 : Nat.ble (zlay (zR k :: as)).length nl
  · rw [h0, h1, h2, h3] at h; cases h
  rw [h0, h1, h2, h3] at h
  have hn3 := Nat.le_of_ble_eq_true h3
  have hk := Nat.eq_of_beq_eq_true h0
  have hn1 := Nat.le_of_ble_eq_true h1
  have hn2 := Nat.le_of_ble_eq_true h2
  have hk0 : zcl k ≠ 0 := by rw [hk]; assumption
  have hk9 := zcl_lt hk0
  cases h
  refine ⟨hnl, hn3, hM, rfl, fun a ha => List.mem_of_mem_take (List.mem_reverse.mp (by rw [has]; exact ha)), ?_⟩
  intro v σ1 vs hcon hrk G H locs ls hat hlh hwf
  have hvl := zrk_list hrk
  subst hvl
  have hcat := zcat_le (A := A) (st.drop (n + 1))
  have htk : st.take (n + 1) = as.reverse ++ [zR k] := by
    have := congrArg List.reverse has
    simpa using this
  have hal : as.length = n := by
    have := congrArg List.length htk
    simp at this
    omega
  have hstk : st.map (zv A) = (as.map (zv A)).reverse ++ .ref (A k) :: (st.drop (n + 1)).map (zv A) := by
    conv => lhs; rw [← List.take_append_drop (n + 1) st]
    rw [htk]
    simp [zv]
  refine zcall_go (rest := (st.drop (n + 1)).map (zv A)) (va_runVN (C := C) (b := A k) (As := as.map (zv A)) (rest := (st.drop (n + 1)).map (zv A)) ⟨hx, hb, hml, hown, hts⟩ (hcon D A cI cQ H.size) ⟨va_cnB (ret := zmR m') n hts (zGoodIn hM) rfl rfl rfl (hN _ hw) (hts _ hM.1.2) ⟨hM.2.2.1, hM.2.2.2, hpn⟩ ⟨by show zmH m' + 1 ≤ _; omega, by show 8 + (zmX m' + 11) + 32 * zmH m' ≤ _; omega⟩, hts _ hin, hts _ hse⟩ ⟨zblind, va_recv hK hat.1 (ci := ci - 1) (q0 := k) hc (by rw [zW_get (by omega), zent_obj hk0, hk]), zpre hat hK hN (.ref (A k) :: as.map (zv A))⟩ rfl (by simp [hal]) hlh.2.1 hstk (lv_room (by omega)) hd ⟨Nat.le_refl _, Nat.le_refl _⟩) hat hA (fun H1 locs1 hat1 hσ1 hvs => ?_)
  have h9 := G H1 locs1 ls hat1 hlh ⟨hwf.1, fun x hx => by
    rcases List.mem_append.mp hx with q | q
    · exact hvs x q
    · exact hwf.2.1 x (List.mem_of_mem_drop q), hσ1⟩
  have e9 : (v.toList ++ st.drop (n + 1)).map (zv A) = (v.map (zv A)).toList ++ (st.drop (n + 1)).map (zv A) := by
    cases v <;> simp
  rw [← e9]
  exact h9
