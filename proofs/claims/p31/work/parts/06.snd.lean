/-! ===== 06: that each step of the small machine is the machine's ===== -/
/-- a method's walk: what is known at its entry -/
def zCx (m : Nat) (p : Program) (R : Room) (s : State) (mid : MethodId) (args : Array Value) (meth : Method) (c : Code) (A0 : Nat → Prop) (D : va_G) (cI cQ : ClassId) : Prop :=
  p.tables.exec = Jvm.exec ∧ c.code = zmB m ∧ c.maxLocals = zmX m ∧ meth.sig.returnType = zmR m ∧ meth.locks = false ∧ s.vm.findClass (zmY m).cls = some mid.cls ∧ (∀ w ∈ zWL, w.before args s = true) ∧ zNst s ∧ va_K D zcls (ztys cI cQ) s ∧ (∀ q : Nat, s.heap.size ≤ q → A0 q) ∧ zmH m ≤ R.frames ∧ 32 * zmH m ≤ R.locals
/-- the world at a point of the walk -/
def zAt (A : Nat → Nat) (A0 : Nat → Prop) (D : va_G) (cI cQ : ClassId) (H0 H : Heap) (locs : List Loc) (σ : zSt) : Prop := va_P D zcls (zW A cI cQ σ) H ∧ va_D A0 (zW A cI cQ σ) ∧ va_S A0 H0 H locs
def zLH (A : Nat → Nat) (nL : Nat) (L : zLc) (ls : Array Slot) : Prop := L.length = nL ∧ ls.size = nL ∧ lv_wf ls ∧ ∀ (i : Nat) (v : zVal), L[i]? = some (some v) → ls[i]? = some (.val (zv A v))
def zWf (L : zLc) (st : List zVal) (σ : zSt) : Prop := (∀ (i : Nat) (v : zVal), L[i]? = some (some v) → zok v) ∧ (∀ v ∈ st, zok v) ∧ zoks σ
def zG (m : Nat) (p : Program) (l : Launch) (e : Env) (R : Room) (s : State) (mid : MethodId) (args : Array Value) (below : List Frame) (meth : Method) (c : Code) (A : Nat → Nat) (A0 : Nat → Prop) (D : va_G) (cI cQ : ClassId) (Q : State → Prop) (cf : zCf) : Prop :=
  ∀ (H : Heap) (locs : List Loc) (ls : Array Slot), zAt A A0 D cI cQ s.heap H locs cf.2.2.2 → zLH A (zmX m) cf.2.1 ls → zWf cf.2.1 cf.2.2.1 cf.2.2.2 → W p l e R s mid args below meth c H locs R.cells R.slots Q (F0 mid cf.1 ls (cf.2.2.1.map (zv A)))
/-- the room of method m -/
abbrev zRm (m : Nat) : Room := { frames := zmH m, cells := 0, slots := 0, locals := 32 * zmH m }
abbrev zmW (m : Nat) : List Cond := Cond.code (zmY m) (zmB m) (zmX m) (zmR m) :: zWL
abbrev zPost (D : va_G) (A : Nat → Nat) (cI cQ : ClassId) (sz : Nat) (σ : zSt) (v : Option zVal) (σ' : zSt) : Array Value → State → Outcome → State → Prop := fun _ st oc t =>
  (oc = .returned (v.map (zv A)) ∧ va_P D zcls (zW A cI cQ σ') t.heap ∧ va_D (va_A (zW A cI cQ σ) sz) (zW A cI cQ σ') ∧ zoks σ' ∧ ∀ x ∈ v.toList, zok x) ∧ va_F (va_A (zW A cI cQ σ) sz) st t
/-- method m with the arguments as over the ints σ answers v and leaves the ints σ' -/
def zCon (l : Launch) (m : Nat) (as : List zVal) (σ : zSt) (v : Option zVal) (σ' : zSt) : Prop :=
  ∀ (D : va_G) (A : Nat → Nat) (cI cQ : ClassId) (sz : Nat), Met l (zmY m) (zmW m) (zRm m) (va_Pc (as.map (zv A)) (zPre D A cI cQ sz σ)) (zPost D A cI cQ sz σ v σ') 0 0 (va_A (zW A cI cQ σ) sz)
/-- where a method ends: the machine's row -/
def zRet (m pc : Nat) (v : Option zVal) : Prop := match v with
  | none => zmR m = none ∧ decode (zmB m) pc = .ok (.return_, 1)
  | some (.inl x) => (zmR m = some .int ∨ (zmR m = some .boolean ∧ (x = 0 ∨ x = 1))) ∧ decode (zmB m) pc = .ok (.ireturn, 1)
  | some (.inr (.inr _)) => zmR m = some .long ∧ decode (zmB m) pc = .ok (.lreturn, 1)
  | _ => False
/-- what the tables say of method m -/
def zMok (m : Nat) : Prop := (Cond.code (zmY m) (zmB m) (zmX m) (zmR m) ∈ zWL ∧ Cond.initialized (zmY m).cls ∈ zWL) ∧ plainName (zmY m).cls = true ∧ (zmY m).cls ≠ "java/lang/invoke/MethodHandle" ∧ (zmY m).cls ≠ "java/lang/invoke/VarHandle"
def zSnd (m pc : Nat) (f : zOp) : Prop :=
  ∀ (p : Program) (l : Launch) (e : Env) (R : Room) (s : State) (mid : MethodId) (args : Array Value) (below : List Frame) (meth : Method) (c : Code) (A : Nat → Nat) (A0 : Nat → Prop) (D : va_G) (cI cQ : ClassId) (Q : State → Prop), zCx m p R s mid args meth c A0 D cI cQ →
    ∀ (L : zLc) (st : List zVal) (σ : zSt) (r : zStp), f L st σ = some r → match r with
      | .inl cf => zG m p l e R s mid args below meth c A A0 D cI cQ Q cf → zG m p l e R s mid args below meth c A A0 D cI cQ Q (pc, L, st, σ)
      | .inr (.inl (v, σ')) => σ' = σ ∧ st = v.toList ∧ zRet m pc v
      | .inr (.inr (.inl (m', as, nl, rk, cf))) => nl = zmX m' ∧ (zlay as).length ≤ nl ∧ zMok m' ∧ cf.2.2.2 = σ ∧ (∀ a ∈ as, a ∈ st) ∧ ∀ (v : Option zVal) (σ1 : zSt) (vs : List zVal), zCon l m' as σ v σ1 → zrk rk v = some vs → zG m p l e R s mid args below meth c A A0 D cI cQ Q (cf.1, cf.2.1, vs ++ cf.2.2.1, σ1) → zG m p l e R s mid args below meth c A A0 D cI cQ Q (pc, L, st, σ)
      | .inr (.inr (.inr ((k, L'), σ'))) => σ' = σ ∧ st = [] ∧ (1000 ≤ k → k = 1000 + pc ∧ L' = L)
theorem zS_no {m pc : Nat} : zSnd m pc o_no := by
  intro p l e R s mid args below meth c A A0 D cI cQ Q C L st σ r h
  cases h
/-- the locals that are known, as the kit's rows want them -/
def zll (A : Nat → Nat) (L : zLc) : List (Nat × Value) := (List.range L.length).filterMap (fun i => match L[i]? with
  | some (some v) => some (i, zv A v)
  | _ => none)
theorem zll_mem {A : Nat → Nat} {L : zLc} {q : Nat × Value} (h : q ∈ zll A L) : ∃ v, L[q.1]? = some (some v) ∧ q.2 = zv A v := by
  obtain ⟨i, -, hi⟩ := List.mem_filterMap.mp h
  split at hi
  · rename_i v hv
    cases hi
    exact ⟨v, hv, rfl⟩
  · cases hi
theorem zll_in {A : Nat → Nat} {L : zLc} {i : Nat} {v : zVal} (h : L[i]? = some (some v)) : (i, zv A v) ∈ zll A L := by
  refine List.mem_filterMap.mpr ⟨i, List.mem_range.mpr (List.getElem?_eq_some_iff.mp h).1, ?_⟩
  rw [h]
theorem zLH_has {A : Nat → Nat} {nL : Nat} {L : zLc} {ls : Array Slot} (h : zLH A nL L ls) : lv_has ls nL (zll A L) := by
  refine ⟨h.2.1, h.2.2.1, fun q hq => ?_⟩
  obtain ⟨v, h1, h2⟩ := zll_mem hq
  rw [h.2.2.2 _ _ h1, h2]
theorem zv_cat {A : Nat → Nat} (v : zVal) : (zv A v).category = 2 ↔ ∃ x, v = zL x := by
  rcases v with x | (k | x) <;> simp [zv, Value.category]
theorem zk_len (L : zLc) (i : Nat) : (zk L i).length = L.length := by
  unfold zk
  split
  · rfl
  · split
    · simp
    · rfl
theorem zk_at {L : zLc} {i j : Nat} {v : zVal} (h : (zk L i)[j]? = some (some v)) : L[j]? = some (some v) ∧ ¬ (j + 1 = i ∧ ∃ x, v = zL x) := by
  unfold zk at h
  split at h
  · exact ⟨h, fun q => by omega⟩
  · rename_i i'
    split at h
    · rename_i x hx
      by_cases hj : j = i'
      · subst hj
        rw [List.getElem?_set_self (List.getElem?_eq_some_iff.mp hx).1] at h
        cases h
      · rw [List.getElem?_set_ne (Ne.symm hj)] at h
        exact ⟨h, fun q => hj (by omega)⟩
    · rename_i hx
      refine ⟨h, fun ⟨q1, x, q2⟩ => ?_⟩
      have hj : j = i' := by omega
      subst hj
      subst q2
      exact hx x h
theorem zLH_st1 {A : Nat → Nat} {nL : Nat} {L : zLc} {ls' : Array Slot} {i : Nat} {v : zVal} (hl : L.length = nL) (h : lv_has ls' nL ((i, zv A v) :: (zll A L).filter (fun q => !(q.1 == i) && !(q.1 + 1 == i && q.2.category == 2)))) : zLH A nL (zs1 L i v) ls' := by
  refine ⟨by simp [zs1, zk_len, hl], h.1, h.2.1, fun j w hj => ?_⟩
  unfold zs1 at hj
  by_cases hji : j = i
  · subst hji
    by_cases hlt : j < (zk L j).length
    · rw [List.getElem?_set_self hlt] at hj
      cases hj
      exact h.2.2 (j, zv A v) List.mem_cons_self
    · rw [List.getElem?_eq_none (by simp; omega)] at hj
      cases hj
  · rw [List.getElem?_set_ne (Ne.symm hji)] at hj
    obtain ⟨h1, h2⟩ := zk_at hj
    refine h.2.2 (j, zv A w) (List.mem_cons_of_mem _ (List.mem_filter.mpr ⟨zll_in h1, ?_⟩))
    have h3 : ¬ (j + 1 = i ∧ (zv A w).category = 2) := fun q => h2 ⟨q.1, (zv_cat w).mp q.2⟩
    simp [hji]
    by_cases q1 : j + 1 = i
    · exact Or.inr (fun q2 => h3 ⟨q1, q2⟩)
    · exact Or.inl q1
theorem zLH_st2 {A : Nat → Nat} {nL : Nat} {L : zLc} {ls' : Array Slot} {i : Nat} {v : zVal} (hl : L.length = nL) (h : lv_has ls' nL ((i, zv A v) :: (zll A L).filter (fun q => !(q.1 == i) && (!(q.1 == i + 1) && !(q.1 + 1 == i && q.2.category == 2))))) : zLH A nL (zs2 L i v) ls' := by
  refine ⟨by simp [zs2, zk_len, hl], h.1, h.2.1, fun j w hj => ?_⟩
  unfold zs2 at hj
  by_cases hji1 : j = i + 1
  · subst hji1
    by_cases hlt : i + 1 < ((zk L i).set i (some v)).length
    · rw [List.getElem?_set_self hlt] at hj
      cases hj
    · rw [List.getElem?_eq_none (by simp at hlt ⊢; omega)] at hj
      cases hj
  rw [List.getElem?_set_ne (Ne.symm hji1)] at hj
  by_cases hji : j = i
  · subst hji
    by_cases hlt : j < (zk L j).length
    · rw [List.getElem?_set_self hlt] at hj
      cases hj
      exact h.2.2 (j, zv A v) List.mem_cons_self
    · rw [List.getElem?_eq_none (by simp; omega)] at hj
      cases hj
  · rw [List.getElem?_set_ne (Ne.symm hji)] at hj
    obtain ⟨h1, h2⟩ := zk_at hj
    refine h.2.2 (j, zv A w) (List.mem_cons_of_mem _ (List.mem_filter.mpr ⟨zll_in h1, ?_⟩))
    have h3 : ¬ (j + 1 = i ∧ (zv A w).category = 2) := fun q => h2 ⟨q.1, (zv_cat w).mp q.2⟩
    simp [hji, hji1]
    by_cases q1 : j + 1 = i
    · exact Or.inr (fun q2 => h3 ⟨q1, q2⟩)
    · exact Or.inl q1
theorem zs1_ok {L : zLc} {i j : Nat} {v w : zVal} (hL : ∀ (i : Nat) (v : zVal), L[i]? = some (some v) → zok v) (hv : zok v) (h : (zs1 L i v)[j]? = some (some w)) : zok w := by
  unfold zs1 at h
  by_cases hji : j = i
  · subst hji
    by_cases hlt : j < (zk L j).length
    · rw [List.getElem?_set_self hlt] at h
      cases h
      exact hv
    · rw [List.getElem?_eq_none (by simp; omega)] at h
      cases h
  · rw [List.getElem?_set_ne (Ne.symm hji)] at h
    exact hL _ _ (zk_at h).1
theorem zs2_ok {L : zLc} {i j : Nat} {v w : zVal} (hL : ∀ (i : Nat) (v : zVal), L[i]? = some (some v) → zok v) (hv : zok v) (h : (zs2 L i v)[j]? = some (some w)) : zok w := by
  unfold zs2 at h
  by_cases hji1 : j = i + 1
  · subst hji1
    by_cases hlt : i + 1 < ((zk L i).set i (some v)).length
    · rw [List.getElem?_set_self hlt] at h
      cases h
    · rw [List.getElem?_eq_none (by simp at hlt ⊢; omega)] at h
      cases h
  · rw [List.getElem?_set_ne (Ne.symm hji1)] at h
    exact zs1_ok hL hv h
