/-! ===== 65: the law's helpers: a call, its answer into 'out', its exceptions as numbers ===== -/
abbrev zRh : Room := { frames := 9, cells := 1, slots := 6, locals := 290 }
/-- exceptions that a row of another class doesn't take -/
def zNc (U : State) : Prop := va_Nc (zexn 2) (zexn 1) U ∧ va_Nc (zexn 1) (zexn 3) U ∧ va_Nc (zexn 2) (zexn 3) U
theorem zNc.moved {u U : State} (hvm : u.vm.Alike U.vm) (h : zNc u) : zNc U := ⟨va_Nc.moved hvm h.1, va_Nc.moved hvm h.2.1, va_Nc.moved hvm h.2.2⟩
def zHPre (D : va_G) (A : Nat → Nat) (cI cQ cL : ClassId) (o sz : Nat) (σ : zSt) (f : Nat → Int64) (U : State) : Prop := U.heap.size = sz ∧ va_P D zcls (zLW A cI cQ cL o σ f) U.heap ∧ va_K D zcls (zTl cI cQ cL) U ∧ va_D (fun _ => True) (zLW A cI cQ cL o σ f) ∧ zNst U ∧ zTv U ∧ zNc U ∧ zTs (va_A (zLW A cI cQ cL o σ f) sz) U U.heap
def zHPost (D : va_G) (A : Nat → Nat) (cI cQ cL : ClassId) (o sz : Nat) (σ : zSt) (f : Nat → Int64) (k : Int) (σ1 : zSt) (f1 : Nat → Int64) : Array Value → State → Outcome → State → Prop := fun _ st oc t =>
  (oc = .returned (some (.int (Int32.ofInt k))) ∧ va_P D zcls (zLW A cI cQ cL o σ1 f1) t.heap ∧ zoks σ1) ∧ va_F (va_A (zLW A cI cQ cL o σ f) sz) st t
def zHCon (l : Launch) (y : MethodName) (cc : ByteArray) (nl : Nat) (hh : List (Nat × Nat × Nat × Nat)) (as : List zVal) (σ : zSt) (f : Nat → Int64) (k : Int) (σ1 : zSt) (f1 : Nat → Int64) : Prop :=
  ∀ (D : va_G) (A : Nat → Nat) (cI cQ cL : ClassId) (o sz : Nat), Met l y (Cond.codeWith y cc nl (some .int) hh :: zWL) zRh (va_Pc (.ref (A 0) :: (as.map (zv A) ++ [.ref o])) (zHPre D A cI cQ cL o sz σ f)) (zHPost D A cI cQ cL o sz σ f k σ1 f1) 1 6 (va_A (zLW A cI cQ cL o σ f) sz)
/-- what is known inside a helper -/
def zHx (cc : ByteArray) (nl : Nat) (hh : List (Nat × Nat × Nat × Nat)) (p : Program) (s : State) (mid : MethodId) (args : Array Value) (meth : Method) (c : Code) (D : va_G) (A : Nat → Nat) (cI cQ cL : ClassId) (o : Nat) (σ : zSt) (f : Nat → Int64) : Prop :=
  CallFix p mid c cc nl s args zWL RL ∧ meth.sig.returnType = some .int ∧ meth.locks = false ∧ zNst s ∧ va_K D zcls (zTl cI cQ cL) s ∧ zTv s ∧ zNc s ∧ zTs (va_A (zLW A cI cQ cL o σ f) s.heap.size) s s.heap ∧ va_P D zcls (zLW A cI cQ cL o σ f) s.heap ∧ va_D (va_A (zLW A cI cQ cL o σ f) s.heap.size) (zLW A cI cQ cL o σ f) ∧ c.exceptionTable.toList = tableOf hh
theorem zHel_of {l : Launch} {y : MethodName} {cc : ByteArray} {nl : Nat} {hh : List (Nat × Nat × Nat × Nat)} {as : List zVal} {σ : zSt} {f : Nat → Int64} {k : Int} {σ1 : zSt} {f1 : Nat → Int64} (hy : plainName y.cls = true) (hcl : y.cls = RL)
    (body : ∀ (p : Program) (e : Env) (s : State) (mid : MethodId) (args : Array Value) (below : List Frame) (meth : Method) (c : Code) (A : Nat → Nat) (D : va_G) (cI cQ cL : ClassId) (o : Nat), zHx cc nl hh p s mid args meth c D A cI cQ cL o σ f → (lg_sl (.ref (A 0) :: (as.map (zv A) ++ [.ref o]))).length ≤ nl ∧ ∀ ls : Array Slot, lv_has ls nl (lv_args 0 (.ref (A 0) :: (as.map (zv A) ++ [.ref o]))) → W p l e zRh s mid args below meth c s.heap [] 0 0 (MQ below (zHPost D A cI cQ cL o s.heap.size σ f k σ1 f1) args s 1 6 (va_A (zLW A cI cQ cL o σ f) s.heap.size)) (F0 mid 0 ls [])) : zHCon l y cc nl hh as σ f k σ1 f1 := by
  intro D A cI cQ cL o sz
  refine va_MetW (cc := cc) (maxL := nl) (ret := some .int) (hh := hh) hy rfl ?_
  intro p e s mid args below meth c s₁ B hml hv
  obtain ⟨rfl, hsz, hP, hK, hD0, hN, hTv, hNc, hTs⟩ := hv
  have hts := atoms_spec (ws := Cond.codeWith y cc nl (some .int) hh :: zWL) B.pre
  have hown : s.vm.findClass RL = some mid.cls := by rw [← hcl]; exact findClass_of_methodNamed B.named
  subst hsz
  obtain ⟨hlen, hbd⟩ := body p e s mid _ below meth c A D cI cQ cL o ⟨⟨B.exec, B.bytes, hml, hown, fun w hw => hts w (List.mem_cons_of_mem _ hw)⟩, B.returns, B.notSynchronized, hN, hK, hTv, hNc, hTs, hP, hD0.self (sz := s.heap.size), vx_table (x := y) B (hts _ List.mem_cons_self)⟩
  have hl := lv_entry (.ref (A 0) :: (as.map (zv A) ++ [.ref o])) (n := nl) hlen
  rw [lg_entry_eq]
  exact hbd _ hl
section ZHE
variable {p : Program} {l : Launch} {e : Env} {R : Room} {s : State} {mid : MethodId} {args : Array Value} {below : List Frame} {meth : Method} {c : Code} {H : Heap} {locs : List Loc} {cells slots : Nat} {Q : State → Prop}
variable {A : Nat → Nat} {A0 : Nat → Prop} {D : va_G} {cI cQ cL : ClassId} {o : Nat} {σ σ1 : zSt} {f f1 : Nat → Int64} {cc : ByteArray} {pc : Nat} {ls : Array Slot} {rest : List Value}
theorem zvp01 : vp_in (0 : Int32) 1 := by
  unfold vp_in
  decide
theorem zlc_last (hx : p.tables.exec = Jvm.exec) (hb : c.code = cc) (hK : va_K D zcls (zTl cI cQ cL) s) (hP : va_P D zcls (zLW A cI cQ cL o σ f) H) (hD : va_D A0 (zLW A cI cQ cL o σ f)) (hS : va_S A0 s.heap H locs) {x : Int64} (hdg : decode cc pc = .ok (.lastore, 1))
    (kk : ∀ (H1 : Heap) (locs1 : List Loc), va_P D zcls (zLW A cI cQ cL o σ (vp_updL f 0 x)) H1 → va_D A0 (zLW A cI cQ cL o σ (vp_updL f 0 x)) → va_S A0 s.heap H1 locs1 → W p l e R s mid args below meth c H1 locs1 cells slots Q (F0 mid (pc + 1) ls rest)) :
    W p l e R s mid args below meth c H locs cells slots Q (F0 mid pc ls (.long x :: .int 0 :: .ref o :: rest)) := by
  refine va_last (n := 1) (cA := cL) (f := f) hx hb hK hP hD hS 69 2 zLW_out rfl zvp01 hdg (fun H1 locs1 hP1 hD1 hS1 => ?_)
  have e : (zLW A cI cQ cL o σ f).set 69 (o, .inl (cL, 1, .inr (.inl (vp_updL f (0 : Int32).toNatClampNeg x)))) = zLW A cI cQ cL o σ (vp_updL f 0 x) := zLW_set
  rw [e] at hP1 hD1
  exact kk H1 locs1 hP1 hD1 hS1
theorem zHend {nl : Nat} {hh : List (Nat × Nat × Nat × Nat)} {k : Int} (hX : zHx cc nl hh p s mid args meth c D A cI cQ cL o σ f) (hP : va_P D zcls (zLW A cI cQ cL o σ1 f1) H) (hS : va_S (va_A (zLW A cI cQ cL o σ f) s.heap.size) s.heap H locs) (hok : zoks σ1) (hc : cells ≤ 1 ∧ slots ≤ 6) (hdg : decode cc pc = .ok (.ireturn, 1)) :
    W p l e zRh s mid args below meth c H locs cells slots (MQ below (zHPost D A cI cQ cL o s.heap.size σ f k σ1 f1) args s 1 6 (va_A (zLW A cI cQ cL o σ f) s.heap.size)) (F0 mid pc ls [.int (Int32.ofInt k)]) := by
  obtain ⟨⟨hx, hb, hml, hown, hts⟩, hr, hlk, _⟩ := hX
  refine W.widen (k := 1) (n := 6) hc.1 hc.2 ?_
  exact W.iret hx hb hr (fun t ht hW => ⟨⟨rfl, by rw [ht]; exact hP, hok⟩, hS.F ht⟩) hS.2.2 hdg hlk
end ZHE
