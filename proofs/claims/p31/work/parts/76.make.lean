/-! ===== 76: constructors: their contracts, their rows ===== -/
def zKPre (D : va_G) (cI cQ : ClassId) (sz : Nat) (ws : va_W) (U : State) : Prop := U.heap.size = sz ∧ va_P D zcls ws U.heap ∧ va_K D zcls (ztys cI cQ) U ∧ va_D (fun _ => True) ws ∧ zNst U ∧ va_AO RX3 U
def zKPost (D : va_G) (sz : Nat) (ws : va_W) (P : va_W → Prop) : Array Value → State → Outcome → State → Prop := fun _ st oc t =>
  (oc = .returned none ∧ ∃ w1, P w1 ∧ va_P D zcls w1 t.heap ∧ va_D (va_A ws sz) w1) ∧ va_F (va_A ws sz) st t
/-- a constructor over the cell (h, e) makes the world P -/
def zKCon (l : Launch) (D : va_G) (cI cQ : ClassId) (y : MethodName) (cc : ByteArray) (nl h : Nat) (e : va_E) (rm : Room) (P : va_W → Prop) : Prop :=
  ∀ sz, Met l y (Cond.code y cc nl none :: zWL) rm (va_Pc [.ref h] (zKPre D cI cQ sz [(h, e)])) (zKPost D sz [(h, e)] P) rm.cells rm.slots (va_A [(h, e)] sz)
theorem zkblind {as : List Value} {D : va_G} {cI cQ : ClassId} {sz : Nat} {ws : va_W} : FrameBlind (va_Pc as (zKPre D cI cQ sz ws)) := by
  intro a U g mk q
  obtain ⟨q0, q1, qP, qK, qD, qN, qo⟩ := q
  exact ⟨q0, q1, qP, va_K.moved (u := U) (U := U.calling g mk a) (Vm.Alike.refl U.vm) qK, qD, zNst_same (u := U) (U := U.calling g mk a) rfl qN, va_AO.moved (u := U) (U := U.calling g mk a) (Vm.Alike.refl U.vm) qo⟩
/-- what is known inside a constructor -/
def zKx (own : String) (cc : ByteArray) (nl : Nat) (p : Program) (s : State) (mid : MethodId) (args : Array Value) (meth : Method) (c : Code) (D : va_G) (cI cQ : ClassId) (h : Nat) (e : va_E) : Prop :=
  CallFix p mid c cc nl s args zWL own ∧ meth.sig.returnType = none ∧ meth.locks = false ∧ zNst s ∧ va_AO RX3 s ∧ va_K D zcls (ztys cI cQ) s ∧ va_P D zcls [(h, e)] s.heap ∧ va_D (va_A [(h, e)] s.heap.size) [(h, e)] ∧ meth.name = "<init>"
theorem zKCon_of {l : Launch} {D : va_G} {cI cQ : ClassId} {own : String} {y : MethodName} {cc : ByteArray} {nl h : Nat} {e : va_E} {rm : Room} {P : va_W → Prop} (hy : plainName y.cls = true) (hcl : y.cls = own) (hni : y.name = "<init>") (hnl : 1 ≤ nl)
    (body : ∀ (p : Program) (en : Env) (s : State) (mid : MethodId) (args : Array Value) (below : List Frame) (meth : Method) (c : Code), zKx own cc nl p s mid args meth c D cI cQ h e → ∀ ls : Array Slot, lv_has ls nl [(0, .ref h)] → W p l en rm s mid args below meth c s.heap [] 0 0 (MQ below (zKPost D s.heap.size [(h, e)] P) args s rm.cells rm.slots (va_A [(h, e)] s.heap.size)) (F0 mid 0 ls [])) : zKCon l D cI cQ y cc nl h e rm P := by
  intro sz
  refine Met.ofW (cc := cc) (maxL := nl) (ret := none) hy rfl ?_
  intro p en s mid args below meth c s₁ B hml hv
  obtain ⟨rfl, hsz, hP, hK, hD0, hN, hO⟩ := hv
  have hts := atoms_spec (ws := Cond.code y cc nl none :: zWL) B.pre
  have hown : s.vm.findClass own = some mid.cls := by rw [← hcl]; exact findClass_of_methodNamed B.named
  have hin : meth.name = "<init>" := by rw [← hni]; exact (name_of_methodNamed B.named B.method).1
  subst hsz
  have hl := lv_entry ([.ref h]) (n := nl) (by show 1 ≤ nl; exact hnl)
  rw [lg_entry_eq]
  exact body p en s mid _ below meth c ⟨⟨B.exec, B.bytes, hml, hown, fun w hw => hts w (List.mem_cons_of_mem _ hw)⟩, B.returns, B.notSynchronized, hN, hO, hK, hP, hD0.self (sz := s.heap.size), hin⟩ _ hl
theorem zkac : Cond.arrayClass .int ∈ zWL := zwl 144 (by decide +kernel) rfl
theorem zko1 : Cond.instanceMethod objectInit ∈ zWL := zwl 64 (by decide +kernel) rfl
theorem zko2 : Cond.code objectInit ⟨#[0xb1]⟩ 1 none ∈ zWL := zwl 65 (by decide +kernel) rfl
section ZK
variable {p : Program} {l : Launch} {en : Env} {R : Room} {s : State} {mid : MethodId} {args : Array Value} {below : List Frame} {meth : Method} {c : Code} {H : Heap} {locs : List Loc} {cells slots : Nat} {Q : State → Prop}
variable {A0 : Nat → Prop} {D : va_G} {cI cQ : ClassId} {cc cc' : ByteArray} {nL nl pc idx h : Nat} {y : MethodName} {ls : Array Slot} {own : String} {rest : List Value} {ws : va_W} {e : va_E} {rm : Room} {P : va_W → Prop}
theorem zk_end (hX : zKx own cc nL p s mid args meth c D cI cQ h e) {w1 : va_W} (hp : P w1) (hP : va_P D zcls w1 H) (hD : va_D (va_A [(h, e)] s.heap.size) w1) (hS : va_S (va_A [(h, e)] s.heap.size) s.heap H locs) (hc : cells ≤ rm.cells ∧ slots ≤ rm.slots) (hdg : decode cc pc = .ok (.return_, 1)) : W p l en rm s mid args below meth c H locs cells slots (MQ below (zKPost D s.heap.size [(h, e)] P) args s rm.cells rm.slots (va_A [(h, e)] s.heap.size)) (F0 mid pc ls []) := by
  obtain ⟨S, hr, hlk, _⟩ := hX
  refine W.widen (k := rm.cells) (n := rm.slots) hc.1 hc.2 ?_
  exact W.vret S.1 S.2.1 hr (fun t ht hW => ⟨⟨rfl, w1, hp, by rw [ht]; exact hP, hD⟩, hS.F ht⟩) hS.2.2 hdg hlk
theorem zk_newa (S : CallFix p mid c cc nL s args zWL own) (hK : va_K D zcls (ztys cI cQ) s) (hP : va_P D zcls ws H) (hD : va_D A0 ws) (hS : va_S A0 s.heap H locs) (hA : ∀ q : Nat, s.heap.size ≤ q → A0 q) {n : Int32} {N : Nat} (hn : ¬ n < 0) (hN : n.toNatClampNeg = N) (hN2 : N ≤ 1000) (hcells : cells + 1 ≤ R.cells) (hslots : slots + N ≤ R.slots) (hdg : decode cc pc = .ok (.newarray .int, 2))
    (kk : ∀ (q : Nat) (H1 : Heap), va_P D zcls (ws ++ [(q, .inl (cI, N, .inl (fun _ => 0)))]) H1 → va_D A0 (ws ++ [(q, .inl (cI, N, .inl (fun _ => 0)))]) → va_S A0 s.heap H1 locs → W p l en R s mid args below meth c H1 locs (cells + 1) (slots + N) Q (F0 mid (pc + 2) ls (.ref q :: rest))) : W p l en R s mid args below meth c H locs cells slots Q (F0 mid pc ls (.int n :: rest)) := by
  refine va_newa (atype := .int) (ty := .int) (a0 := (N, .inl (fun _ => 0))) S.1 S.2.1 (S.2.2.2.2 _ zkac) rfl hK hP hD hS hA (fun _ => rfl) hn hN (by show N * 4 ≤ 536870912; omega) hcells hslots hdg (fun q cA H1 hK2 hP2 hD2 hS2 => ?_)
  have e1 : s.vm.findClass ("[" ++ FieldType.int.toString) = some cI := (hK.2 0 (cI, .int) rfl).2
  have e2 : s.vm.findClass ("[" ++ FieldType.int.toString) = some cA := (hK2.2 2 (cA, .int) rfl).2
  obtain rfl : cI = cA := Option.some.inj (e1.symm.trans e2)
  exact kk q H1 hP2 hD2 hS2
theorem zk_go {mc ms : Nat} (hr : va_Run p l en R s mid args below meth c H locs cells slots mc ms (F0 mid pc ls (.ref h :: rest)) rest (zKPost D H.size [(h, e)] P [Value.ref h].toArray) (va_A [(h, e)] H.size)) (hP : va_P D zcls (ws ++ [(h, e)]) H) (hD : va_D A0 (ws ++ [(h, e)])) (hS : va_S A0 s.heap H locs) (hA : ∀ q : Nat, s.heap.size ≤ q → A0 q)
    (kk : ∀ (w1 : va_W) (H1 : Heap) (locs1 : List Loc), P w1 → va_P D zcls (ws ++ w1) H1 → va_D A0 (ws ++ w1) → va_S A0 s.heap H1 locs1 → W p l en R s mid args below meth c H1 locs1 (cells + mc) (slots + ms) Q (F0 mid (pc + 3) ls rest)) : W p l en R s mid args below meth c H locs cells slots Q (F0 mid pc ls (.ref h :: rest)) := by
  have hlast : (ws ++ [(h, e)])[ws.length]? = some (h, e) := by simp
  have hF : ∀ q, va_A [(h, e)] H.size q → A0 q := by
    intro q hq
    rcases hq with ⟨k, e9, hk⟩ | hq
    · cases k with
      | zero =>
        have e1 : (h, e) = (q, e9) := Option.some.inj hk
        have e2 : h = q := congrArg Prod.fst e1
        rw [← e2]
        exact hD.2 _ _ hlast
      | succ k => simp at hk
    · exact hA q (Nat.le_trans hS.1 hq)
  intro T hT X
  obtain ⟨v', st₀, t, T', L, h0', X', hL, e1, e2, ⟨⟨hv, w1, hp, hP1, hD1⟩, hz, hk1⟩, st⟩ := hr T hT X
  cases hv
  rw [h0'] at hz hk1
  have hap : ∀ (i : Nat) (q : Nat × va_E), ws[i]? = some q → ¬ va_A [(h, e)] H.size q.1 := by
    intro i q hi hq
    have hil : i < ws.length := (List.getElem?_eq_some_iff.mp hi).1
    have hi2 : (ws ++ [(h, e)])[i]? = some q := by rw [List.getElem?_append_left hil]; exact hi
    rcases hq with ⟨k, e9, hk⟩ | hq
    · cases k with
      | zero =>
        have e1 : (h, e) = (q.1, e9) := Option.some.inj hk
        have := hD.1 i ws.length q (h, e) hi2 hlast (congrArg Prod.fst e1).symm
        omega
      | succ k => simp at hk
    · exact Nat.lt_irrefl _ (Nat.lt_of_lt_of_le (vx_lt hP hi2) hq)
  have hPw : va_P D zcls ws H := fun i q hi => hP i q (by rw [List.getElem?_append_left (List.getElem?_eq_some_iff.mp hi).1]; exact hi)
  have hP2 : va_P D zcls (ws ++ w1) t.heap := (hPw.kept (fun i q hi => hk1 q.1 (vx_lt hPw hi) (hap i q hi))).app hP1
  have hDw : va_D A0 ws := ⟨fun i j a b hi hj => hD.1 i j a b (by rw [List.getElem?_append_left (List.getElem?_eq_some_iff.mp hi).1]; exact hi) (by rw [List.getElem?_append_left (List.getElem?_eq_some_iff.mp hj).1]; exact hj), fun i q hi => hD.2 i q (by rw [List.getElem?_append_left (List.getElem?_eq_some_iff.mp hi).1]; exact hi)⟩
  have hD2 : va_D A0 (ws ++ w1) := hDw.app (hD1.weaken (fun _ _ _ h => hF _ h)) (fun i j a b hi hj e9 => hap i a hi (by rw [e9]; exact hD1.2 j b hj))
  obtain ⟨t2, a1, b1⟩ := kk w1 T'.heap (locs ++ L) hp (by rw [e1]; exact hP2) hD2
    ⟨Nat.le_trans hS.1 (by rw [e1]; exact hz), fun q h1 h2 => by rw [e1, hk1 q (Nat.lt_of_lt_of_le h1 hS.1) (fun z => h2 (hF q z))]; exact hS.2.1 q h1 h2, fun q hq => by
      rcases List.mem_append.mp hq with h | h
      · exact hS.2.2 q h
      · exact hF _ (hL q h)⟩ T' rfl X'
  exact ⟨t2, st t2 a1, b1⟩
theorem zkpre (hK : va_K D zcls (ztys cI cQ) s) (hN : zNst s) (hO : va_AO RX3 s) (hP : va_P D zcls (ws ++ [(h, e)]) H) : ∀ U : State, U.heap = H → s.WarmedH U.vm → va_Pc [.ref h] (zKPre D cI cQ H.size [(h, e)]) [Value.ref h].toArray U := by
  intro U hU hW
  have h1 : ∀ (k : Nat) (q : Nat × va_E), [(h, e)][k]? = some q → k = 0 ∧ q = (h, e) := by
    intro k q hk
    cases k with
    | zero => exact ⟨rfl, (Option.some.inj hk).symm⟩
    | succ k => simp at hk
  refine ⟨rfl, by rw [hU], fun k q hk => ?_, va_K.moved hW.alike hK, ⟨fun i j a b hi hj _ => ?_, fun _ _ _ => trivial⟩, zNst_warm hW hN, va_AO.moved hW.alike hO⟩
  · rw [hU, (h1 k q hk).2]
    exact hP ws.length (h, e) (by simp)
  · rw [(h1 i a hi).1, (h1 j b hj).1]
/-- a constructor's call, and a nest mate's -/
theorem zk_call (S : CallFix p mid c cc nL s args zWL own) (hcon : zKCon l D cI cQ y cc' nl h e rm P) (hw : Cond.methodLink own idx y ∈ zWL) (hcd : Cond.code y cc' nl none ∈ zWL) (hin : Cond.instanceMethod y ∈ zWL) (hini : Cond.initialized y.cls ∈ zWL) (hni : y.name = "<init>") (hy : y.cls ≠ "java/lang/invoke/MethodHandle" ∧ y.cls ≠ "java/lang/invoke/VarHandle") (hpn : (parseMethodDescriptor y.desc).map (fun d => d.parameters.length) = some 0) (hR : rm.frames + 1 ≤ R.frames ∧ 8 + (nl + 11) + rm.locals ≤ R.locals) (hcs : cells + rm.cells ≤ R.cells ∧ slots + rm.slots ≤ R.slots) (hsz : ls.size = nL) (hrest : (rest.map fun v => v.category).sum ≤ 8) (hdg : decode cc pc = .ok (.invokespecial idx, 3))
    (hK : va_K D zcls (ztys cI cQ) s) (hN : zNst s) (hO : va_AO RX3 s) (hP : va_P D zcls (ws ++ [(h, e)]) H) (hD : va_D A0 (ws ++ [(h, e)])) (hS : va_S A0 s.heap H locs) (hA : ∀ q : Nat, s.heap.size ≤ q → A0 q)
    (kk : ∀ (w1 : va_W) (H1 : Heap) (locs1 : List Loc), P w1 → va_P D zcls (ws ++ w1) H1 → va_D A0 (ws ++ w1) → va_S A0 s.heap H1 locs1 → W p l en R s mid args below meth c H1 locs1 (cells + rm.cells) (slots + rm.slots) Q (F0 mid (pc + 3) ls rest)) : W p l en R s mid args below meth c H locs cells slots Q (F0 mid pc ls (.ref h :: rest)) := by
  have hgd : GoodIn zWL (Cond.code y cc' nl none :: zWL) := fun w hw => by
    rcases List.mem_cons.mp hw with e | hw
    · rw [e]; exact zgood hcd
    · exact zgood hw
  exact zk_go (va_runI (As := []) (rest := rest) S (hcon H.size) (cwI 0 S.2.2.2.2 hgd rfl rfl rfl (S.2.2.2.2 _ hini) (S.2.2.2.2 _ hw) (S.2.2.2.2 _ hin) hni ⟨hy.1, hy.2, hpn⟩ hR) ⟨zkblind, zkpre hK hN hO hP⟩ rfl rfl hsz rfl (lv_room hrest) hdg hcs) hP hD hS hA kk
theorem zk_callN {host : String} (S : CallFix p mid c cc nL s args zWL own) (hcon : zKCon l D cI cQ y cc' nl h e rm P) (hw : Cond.methodLinkNest own idx y host ∈ zNL) (hcd : Cond.code y cc' nl none ∈ zWL) (hin : Cond.instanceMethod y ∈ zWL) (hini : Cond.initialized y.cls ∈ zWL) (hni : y.name = "<init>") (hy : y.cls ≠ "java/lang/invoke/MethodHandle" ∧ y.cls ≠ "java/lang/invoke/VarHandle") (hpn : (parseMethodDescriptor y.desc).map (fun d => d.parameters.length) = some 0) (hR : rm.frames + 1 ≤ R.frames ∧ 8 + (nl + 11) + rm.locals ≤ R.locals) (hcs : cells + rm.cells ≤ R.cells ∧ slots + rm.slots ≤ R.slots) (hsz : ls.size = nL) (hrest : (rest.map fun v => v.category).sum ≤ 8) (hdg : decode cc pc = .ok (.invokespecial idx, 3))
    (hK : va_K D zcls (ztys cI cQ) s) (hN : zNst s) (hO : va_AO RX3 s) (hP : va_P D zcls (ws ++ [(h, e)]) H) (hD : va_D A0 (ws ++ [(h, e)])) (hS : va_S A0 s.heap H locs) (hA : ∀ q : Nat, s.heap.size ≤ q → A0 q)
    (kk : ∀ (w1 : va_W) (H1 : Heap) (locs1 : List Loc), P w1 → va_P D zcls (ws ++ w1) H1 → va_D A0 (ws ++ w1) → va_S A0 s.heap H1 locs1 → W p l en R s mid args below meth c H1 locs1 (cells + rm.cells) (slots + rm.slots) Q (F0 mid (pc + 3) ls rest)) : W p l en R s mid args below meth c H locs cells slots Q (F0 mid pc ls (.ref h :: rest)) := by
  have hgd : GoodIn zWL (Cond.code y cc' nl none :: zWL) := fun w hw => by
    rcases List.mem_cons.mp hw with e | hw
    · rw [e]; exact zgood hcd
    · exact zgood hw
  exact zk_go (va_runIN (As := []) (rest := rest) S (hcon H.size) ⟨va_cnB (ret := none) 0 S.2.2.2.2 hgd rfl rfl rfl (hN _ hw) (S.2.2.2.2 _ hini) ⟨hy.1, hy.2, hpn⟩ hR, hni, S.2.2.2.2 _ hin⟩ ⟨zkblind, zkpre hK hN hO hP⟩ rfl rfl hsz rfl (lv_room hrest) hdg hcs) hP hD hS hA kk
end ZK
