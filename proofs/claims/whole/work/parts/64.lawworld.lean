/-! ===== 64: the law's world: the small machine's and the row 'out'; calls from the law's own methods ===== -/
abbrev zTl (cI cQ cL : ClassId) : List (ClassId × FieldType) := [(cI, .int), (cQ, .object RX3), (cL, .long)]
def zOu (cL : ClassId) (o : Nat) (f : Nat → Int64) : Nat × va_E := (o, .inl (cL, 1, .inr (.inl f)))
def zLW (A : Nat → Nat) (cI cQ cL : ClassId) (o : Nat) (σ : zSt) (f : Nat → Int64) : va_W := zW A cI cQ σ ++ [zOu cL o f]
section ZLW
variable {A : Nat → Nat} {cI cQ cL : ClassId} {o : Nat} {σ σ1 : zSt} {f f1 : Nat → Int64} {D : va_G} {cl : List vw_C} {H H1 : Heap} {A0 : Nat → Prop}
theorem zLW_out : (zLW A cI cQ cL o σ f)[69]? = some (zOu cL o f) := by
  unfold zLW
  rw [List.getElem?_append_right (by rw [zW_len]; exact Nat.le_refl _), zW_len]
  rfl
theorem zLW_get {k : Nat} (h : k < 69) : (zLW A cI cQ cL o σ f)[k]? = some (A k, zent A cI cQ σ k) := by
  unfold zLW
  rw [List.getElem?_append_left (by rw [zW_len]; exact h), zW_get h]
theorem zLW_at {k : Nat} {q : Nat × va_E} (h : (zLW A cI cQ cL o σ f)[k]? = some q) : (k < 69 ∧ q = (A k, zent A cI cQ σ k)) ∨ (k = 69 ∧ q = zOu cL o f) := by
  by_cases h1 : k < 69
  · rw [zLW_get h1] at h
    exact Or.inl ⟨h1, (Option.some.inj h).symm⟩
  · by_cases h2 : k = 69
    · subst h2
      rw [zLW_out] at h
      exact Or.inr ⟨rfl, (Option.some.inj h).symm⟩
    · unfold zLW at h
      rw [List.getElem?_append_right (by rw [zW_len]; omega), zW_len, List.getElem?_eq_none (by show [zOu cL o f].length ≤ _; simp; omega)] at h
      cases h
theorem zLW_set : (zLW A cI cQ cL o σ f).set 69 (zOu cL o f1) = zLW A cI cQ cL o σ f1 := by
  unfold zLW
  rw [List.set_append_right _ _ (by rw [zW_len]; exact Nat.le_refl _), zW_len]
  rfl
theorem zLW_P (h : va_P D cl (zLW A cI cQ cL o σ f) H) : va_P D cl (zW A cI cQ σ) H := by
  intro k q hk
  obtain ⟨h1, h2⟩ := zW_at hk
  rw [h2]
  exact h k _ (zLW_get h1)
theorem zLW_D (h : va_D A0 (zLW A cI cQ cL o σ f)) : va_D A0 (zW A cI cQ σ) := by
  refine ⟨fun i j p q hi hj e => ?_, fun k q hk => ?_⟩
  · obtain ⟨h1, h2⟩ := zW_at hi
    obtain ⟨h3, h4⟩ := zW_at hj
    rw [h2, h4] at e
    exact h.1 i j _ _ (zLW_get h1) (zLW_get h3) e
  · obtain ⟨h1, h2⟩ := zW_at hk
    rw [h2]
    exact h.2 k _ (zLW_get h1)
theorem zLW_ad {k : Nat} {q : Nat × va_E} (h : (zLW A cI cQ cL o σ1 f1)[k]? = some q) (σ : zSt) (f : Nat → Int64) : ∃ q', (zLW A cI cQ cL o σ f)[k]? = some q' ∧ q'.1 = q.1 := by
  rcases zLW_at h with ⟨h1, h2⟩ | ⟨h1, h2⟩
  · exact ⟨_, zLW_get h1, by rw [h2]⟩
  · subst h1
    exact ⟨_, zLW_out, by rw [h2]; rfl⟩
theorem zLW_D2 (h : va_D A0 (zLW A cI cQ cL o σ f)) : va_D A0 (zLW A cI cQ cL o σ1 f1) := by
  refine ⟨fun i j p q hi hj e => ?_, fun k q hk => ?_⟩
  · obtain ⟨p', h1, h2⟩ := zLW_ad hi σ f
    obtain ⟨q', h3, h4⟩ := zLW_ad hj σ f
    exact h.1 i j p' q' h1 h3 (by rw [h2, h4]; exact e)
  · obtain ⟨q', h1, h2⟩ := zLW_ad hk σ f
    rw [← h2]
    exact h.2 k q' h1
theorem zLW_in {sz q : Nat} (h : va_A (zW A cI cQ σ) sz q) : va_A (zLW A cI cQ cL o σ f) sz q := by
  rcases h with ⟨k, e, hk⟩ | h
  · obtain ⟨h1, h2⟩ := zW_at hk
    exact Or.inl ⟨k, _, by rw [zLW_get h1, ← h2]⟩
  · exact Or.inr h
/-- a call inside the small machine leaves 'out' as it is -/
theorem zLW_keep (hD : va_D A0 (zLW A cI cQ cL o σ f)) (hP : va_P D cl (zLW A cI cQ cL o σ f) H) (h1 : va_P D cl (zW A cI cQ σ1) H1) (hk : ∀ q : Nat, q < H.size → ¬ va_A (zW A cI cQ σ) H.size q → H1[q]? = H[q]?) : va_P D cl (zLW A cI cQ cL o σ1 f) H1 := by
  unfold zLW
  refine h1.app (fun k q hq => ?_)
  have hq2 : k = 0 ∧ q = zOu cL o f := by
    cases k with
    | zero => exact ⟨rfl, (Option.some.inj hq).symm⟩
    | succ k => simp at hq
  rw [hq2.2]
  have hlt := vx_lt hP zLW_out
  refine (hP 69 _ zLW_out).kept (hk _ hlt ?_)
  rintro (⟨j, e, hj⟩ | h)
  · obtain ⟨h3, h4⟩ := zW_at hj
    have e1 : A j = (zOu cL o f).1 := (congrArg Prod.fst h4).symm
    have := hD.1 j 69 _ _ (zLW_get h3) zLW_out e1
    omega
  · exact Nat.lt_irrefl _ (Nat.lt_of_lt_of_le hlt h)
end ZLW
section ZLC
variable {p : Program} {l : Launch} {e : Env} {R : Room} {s : State} {mid : MethodId} {args : Array Value} {below : List Frame} {meth : Method} {c : Code} {H : Heap} {locs : List Loc} {cells slots : Nat} {Q : State → Prop}
variable {A : Nat → Nat} {A0 : Nat → Prop} {D : va_G} {cI cQ cL : ClassId} {o : Nat} {σ σ1 : zSt} {f : Nat → Int64} {cc : ByteArray} {nL pc idx n k ci m N : Nat} {ls : Array Slot} {own C : String} {T : u_T} {as : List zVal} {v : Option zVal} {rest : List Value}
/-- a call of a method of the small machine that returns -/
theorem zlc_V (S : CallFix p mid c cc nL s args zWL own) (hcon : zCon l m (zR k :: as) σ v σ1) (h0 : ci ≠ 0) (hk : zcl k = ci) (hc : zcls[ci - 1]? = some (C, T, N)) (hw : Cond.methodLink own idx (zmY m) ∈ zWL) (hin : Cond.instanceMethod (zmY m) ∈ zWL) (hse : Cond.selects C (zmY m) (zmY m) ∈ zWL) (hM : zMok m) (hpn : (parseMethodDescriptor (zmY m).desc).map (fun d => d.parameters.length) = some n) (hn : as.length = n) (hh : zmH m + 1 ≤ R.frames) (hlc : 19 + zmX m + 32 * zmH m ≤ R.locals) (hcs : cells ≤ R.cells ∧ slots ≤ R.slots) (hsz : ls.size = nL) (hrest : (rest.map fun v => v.category).sum ≤ 8) (hdg : decode cc pc = .ok (.invokevirtual idx, 3))
    (hK : va_K D zcls (zTl cI cQ cL) s) (hN : zNst s) (hP : va_P D zcls (zLW A cI cQ cL o σ f) H) (hD : va_D A0 (zLW A cI cQ cL o σ f)) (hS : va_S A0 s.heap H locs) (hA : ∀ q : Nat, s.heap.size ≤ q → A0 q)
    (kk : ∀ (H1 : Heap) (locs1 : List Loc), va_P D zcls (zLW A cI cQ cL o σ1 f) H1 → va_D A0 (zLW A cI cQ cL o σ1 f) → va_S A0 s.heap H1 locs1 → zoks σ1 → (∀ x ∈ v.toList, zok x) → H.size ≤ H1.size → W p l e R s mid args below meth c H1 locs1 cells slots Q (F0 mid (pc + 3) ls ((v.map (zv A)).toList ++ rest))) :
    W p l e R s mid args below meth c H locs cells slots Q (F0 mid pc ls ((as.map (zv A)).reverse ++ .ref (A k) :: rest)) := by
  have hk0 : zcl k ≠ 0 := by rw [hk]; exact h0
  have hk9 := zcl_lt hk0
  have hat : zAt A A0 D cI cQ s.heap H locs σ := ⟨zLW_P hP, zLW_D hD, hS⟩
  have hK2 : va_K D zcls (ztys cI cQ) s := hK.sub [0, 1] rfl
  have hF := zfree hat hA
  have hr := va_runV (below := below) (C := C) (b := A k) (As := as.map (zv A)) (rest := rest) (H := H) (locs := locs) (cells := cells) (slots := slots) (meth := meth) (e := e) (R := R) (g := F0 mid pc ls ((as.map (zv A)).reverse ++ .ref (A k) :: rest)) S (hcon D A cI cQ H.size) ⟨callB_of (ret := zmR m) n S.2.2.2.2 (zGoodIn hM) rfl rfl rfl (S.2.2.2.2 _ hM.1.2) (S.2.2.2.2 _ hw) ⟨hM.2.2.1, hM.2.2.2, hpn⟩ ⟨hh, by show 8 + (zmX m + 11) + 32 * zmH m ≤ R.locals; omega⟩, S.2.2.2.2 _ hin, S.2.2.2.2 _ hse⟩ ⟨zblind, va_recv hK2 hat.1 (ci := ci - 1) (q0 := k) hc (by rw [zW_get (by omega), zent_obj hk0, hk]), zpre hat hK2 hN (.ref (A k) :: as.map (zv A))⟩ rfl (by simp [hn]) hsz rfl (lv_room hrest) hdg ⟨hcs.1, hcs.2⟩
  intro T hT X
  obtain ⟨v', st₀, t, T', L, h0', X', hL, e1, e2, ⟨⟨hv, hP1, hD1, hok, hvo⟩, hz, hk1⟩, st⟩ := hr T hT X
  cases hv
  rw [h0'] at hz hk1
  obtain ⟨t2, a1, b1⟩ := kk T'.heap (locs ++ L) (by rw [e1]; exact zLW_keep hD hP hP1 hk1) (zLW_D2 hD)
    ⟨Nat.le_trans hS.1 (by rw [e1]; exact hz), fun q h1 h2 => by rw [e1, hk1 q (Nat.lt_of_lt_of_le h1 hS.1) (fun z => h2 (hF q z))]; exact hS.2.1 q h1 h2, fun q hq => by
      rcases List.mem_append.mp hq with h | h
      · exact hS.2.2 q h
      · exact hF _ (hL q h)⟩ hok hvo (by rw [e1]; exact hz) T' rfl X'
  exact ⟨t2, st t2 a1, b1⟩
theorem zblindX {as : List Value} {sz : Nat} : FrameBlind (va_Pc as (zPreX D A cI cQ sz σ)) := by
  intro a U g mk q
  obtain ⟨q0, ⟨q1, qP, qK, qD, qN⟩, qv, qs⟩ := q
  exact ⟨q0, ⟨q1, qP, va_K.moved (u := U) (U := U.calling g mk a) (Vm.Alike.refl U.vm) qK, qD, zNst_same (u := U) (U := U.calling g mk a) rfl qN⟩, zTv_same (u := U) (U := U.calling g mk a) rfl qv, zTs.moved (u := U) (U := U.calling g mk a) (Vm.Alike.refl U.vm) qs⟩
/-- a call of a method of the small machine that throws -/
theorem zlc_X {kx : Nat} (S : CallFix p mid c cc nL s args zWL own) (hcon : zConX l m (zR k :: as) σ kx σ1) (h0 : ci ≠ 0) (hk : zcl k = ci) (hc : zcls[ci - 1]? = some (C, T, N)) (hw : Cond.methodLink own idx (zmY m) ∈ zWL) (hin : Cond.instanceMethod (zmY m) ∈ zWL) (hse : Cond.selects C (zmY m) (zmY m) ∈ zWL) (hM : zMok m) (hpn : (parseMethodDescriptor (zmY m).desc).map (fun d => d.parameters.length) = some n) (hn : as.length = n) (hh : 9 ≤ R.frames) (hlc : 279 + zmX m ≤ R.locals) (hcs : cells + 1 ≤ R.cells ∧ slots + 6 ≤ R.slots) (hsz : ls.size = nL) (hrest : (rest.map fun v => v.category).sum ≤ 8) (hdg : decode cc pc = .ok (.invokevirtual idx, 3))
    (hK : va_K D zcls (zTl cI cQ cL) s) (hN : zNst s) (hTv : zTv s) (hTs : zTs A0 s H) (hP : va_P D zcls (zLW A cI cQ cL o σ f) H) (hD : va_D A0 (zLW A cI cQ cL o σ f)) (hS : va_S A0 s.heap H locs) (hA : ∀ q : Nat, s.heap.size ≤ q → A0 q)
    (kk : ∀ (H1 : Heap) (locs1 : List Loc) (q : Addr) (ce : Cell), va_P D zcls (zLW A cI cQ cL o σ1 f) H1 → va_D A0 (zLW A cI cQ cL o σ1 f) → va_S A0 s.heap H1 locs1 → zoks σ1 → H1[q]? = some ce → ce.vm = .none → s.vm.findClass (zexn kx) = some ce.cls → H.size ≤ H1.size → vx_W p l e R s mid args below meth c H1 locs1 (cells + 1) (slots + 6) Q (F0 mid pc ls rest) q) :
    W p l e R s mid args below meth c H locs cells slots Q (F0 mid pc ls ((as.map (zv A)).reverse ++ .ref (A k) :: rest)) := by
  have hk0 : zcl k ≠ 0 := by rw [hk]; exact h0
  have hk9 := zcl_lt hk0
  have hat : zAt A A0 D cI cQ s.heap H locs σ := ⟨zLW_P hP, zLW_D hD, hS⟩
  have hK2 : va_K D zcls (ztys cI cQ) s := hK.sub [0, 1] rfl
  have hF := zfree hat hA
  have hpre : ∀ U : State, U.heap = H → s.WarmedH U.vm → va_Pc (.ref (A k) :: as.map (zv A)) (zPreX D A cI cQ H.size σ) (Value.ref (A k) :: as.map (zv A)).toArray U := by
    intro U hU hW
    obtain ⟨g1, g2⟩ := zpre hat hK2 hN (.ref (A k) :: as.map (zv A)) U hU hW
    exact ⟨g1, g2, zTv_warm hW hTv, by rw [hU]; exact zTs.moved hW.alike (hTs.narrow hF)⟩
  have hr := vx_runV (below := below) (C := C) (b := A k) (As := as.map (zv A)) (rest := rest) (H := H) (locs := locs) (cells := cells) (slots := slots) (meth := meth) (e := e) (R := R) (g := F0 mid pc ls ((as.map (zv A)).reverse ++ .ref (A k) :: rest)) S (hcon D A cI cQ H.size) ⟨callB_of (ret := zmR m) n S.2.2.2.2 (zGoodIn hM) rfl rfl rfl (S.2.2.2.2 _ hM.1.2) (S.2.2.2.2 _ hw) ⟨hM.2.2.1, hM.2.2.2, hpn⟩ ⟨hh, by show 8 + (zmX m + 11) + 260 ≤ R.locals; omega⟩, S.2.2.2.2 _ hin, S.2.2.2.2 _ hse⟩ ⟨zblindX, va_recv hK2 hat.1 (ci := ci - 1) (q0 := k) hc (by rw [zW_get (by omega), zent_obj hk0, hk]), hpre⟩ rfl (by simp [hn]) hsz rfl (lv_room hrest) hdg hcs
  intro T hT X
  rcases hr T hT X with ⟨v', st₀, t, T', L, h0', X', hL, e1, e2, hfalse, st⟩ | ⟨q, st₀, t, T', L, E, ce, h0', X', hL, e1, e2, ⟨⟨hE, hP1, hD1, hok⟩, hz, hk1⟩, hce, hcv, hcl, st⟩
  · exact hfalse.elim
  · subst hE
    rw [h0'] at hz hk1
    obtain ⟨t2, a1, b1⟩ := kk T'.heap (locs ++ L) q ce (by rw [e1]; exact zLW_keep hD hP hP1 hk1) (zLW_D2 hD)
      ⟨Nat.le_trans hS.1 (by rw [e1]; exact hz), fun q h1 h2 => by rw [e1, hk1 q (Nat.lt_of_lt_of_le h1 hS.1) (fun z => h2 (hF q z))]; exact hS.2.1 q h1 h2, fun q hq => by
        rcases List.mem_append.mp hq with h | h
        · exact hS.2.2 q h
        · exact hF _ (hL q h)⟩ hok (by rw [e1]; exact hce) hcv hcl (by rw [e1]; exact hz) T' rfl X'
    exact ⟨t2, st.trans a1, b1⟩
end ZLC
