/-! ===== 67: what both sides come to, as contracts; the law's rows ===== -/
def Inv (σ : zSt) (B : Int) : Prop := ∃ (S : Row) (c : Nat) (H : Nat → Row) (t : Nat) (T : Row), RC σ S c H t T ∧ RM σ S c H t T ∧ RA S c H t T B
theorem Inv.up {σ : zSt} {B B' : Int} (h : Inv σ B) (hB : B ≤ B') : Inv σ B' := by
  obtain ⟨S, c, H, t, T, h1, h2, h3⟩ := h
  exact ⟨S, c, H, t, T, h1, h2, h3.up hB⟩
/-- the two runs, one behind the other -/
def Jnt (ks : List Nat) (x : Option zOut) (y : zSt → Option zOut) (ω : zSt) (B : Int) : Prop :=
  (∃ (v : Int) (ω1 ω2 : zSt), x = zRI v ω1 ∧ y ω1 = zRI v ω2 ∧ ω2 9 0 = 0 ∧ Inv ω2 B) ∨
  (∃ (i k : Nat) (ω2 : zSt), ks[i]? = some k ∧ x = some (.inr (k, ω)) ∧ y ω = zRI 0 ω2 ∧ ω2 9 0 = ((i + 1 : Nat) : Int) ∧ Inv ω2 B)
theorem joint {ks : List Nat} {x : Option zOut} {y : zSt → Option zOut} {ω : zSt} {S : Row} {c : Nat} {H : Nat → Row} {t : Nat} {T : Row} {B B' : Int} (h : RC ω S c H t T) (g : RM ω S c H t T) (a : RA S c H t T B) (hB : B ≤ B') (hf : ∀ τ, RM τ S c H t T → Both ks x (y τ) ω τ S c H t T B') : Jnt ks x y ω B' := by
  rcases hf ω g with ⟨v, ω1, τ1, S1, c1, H1, t1, T1, x1, y1, n1, rc1, rm1, ra1, fc1, fm1⟩ | ⟨i, k, τ1, hk, x1, y1, n1, rm1, fm1⟩
  · rcases hf ω1 (g.fc fc1) with ⟨v2, ω2, τ2, S2, c2, H2, t2, T2, x2, y2, n2, rc2, rm2, ra2, fc2, fm2⟩ | ⟨i, k, τ2, hk, x2, y2, n2, rm2, fm2⟩
    · have e := x1.symm.trans x2
      have e1 : v = v2 ∧ ω1 = ω2 := by
        injection e with e
        injection e with e
        injection e with e e3
        injection e with e
        injection e with e
        exact ⟨e, e3⟩
      obtain ⟨rfl, rfl⟩ := e1
      exact Or.inl ⟨v, ω1, τ2, x1, y2, n2, S2, c2, H2, t2, T2, rc2.fm ra2 fm2, rm2, ra2⟩
    · have e := x1.symm.trans x2
      injection e with e
      cases e
  · exact Or.inr ⟨i, k, τ1, hk, x1, y1, n1, S, c, H, t, T, h.fm a fm1, rm1, a.up hB⟩
theorem jcomb {l : Launch} {y : MethodName} {cc : ByteArray} {nl : Nat} {hh : List (Nat × Nat × Nat × Nat)} {as as' : List zVal} {f : Nat → Int64} {m' : Nat} {ks : List Nat} {x : Option zOut} {yy : zSt → Option zOut} {ω : zSt} {B : Int} (hJ : Jnt ks x yy ω B) (hks : ks.length ≤ 3)
    (hret : ∀ (v : Int) (σ1 : zSt), x = zRI v σ1 → zHCon l y cc nl hh as ω f 0 σ1 (vp_updL f 0 (zl v))) (hthr : ∀ (i k : Nat) (σ1 : zSt), ks[i]? = some k → x = some (.inr (k, σ1)) → zHCon l y cc nl hh as ω f ((i + 1 : Nat) : Int) σ1 f)
    (hmod : ∀ (σ1 σ2 : zSt) (v : Int), zoks σ1 → yy σ1 = zRI v σ2 → zCon l m' as' σ1 (some (zI v)) σ2) :
    ∃ (k v : Int) (σ1 σ2 : zSt) (f1 : Nat → Int64), zHCon l y cc nl hh as ω f k σ1 f1 ∧ (zoks σ1 → zCon l m' as' σ1 (some (zI v)) σ2) ∧ σ2 9 0 = k ∧ (k = 0 → f1 0 = zl v) ∧ (0 ≤ k ∧ k ≤ 100) ∧ Inv σ2 B := by
  rcases hJ with ⟨v, ω1, ω2, x1, y1, n1, hI⟩ | ⟨i, k, ω2, hk, x1, y1, n1, hI⟩
  · exact ⟨0, v, ω1, ω2, _, hret v ω1 x1, fun hz => hmod ω1 ω2 v hz y1, n1, fun _ => by unfold vp_updL; rw [if_pos rfl], by omega, hI⟩
  · have hi : i < ks.length := (List.getElem?_eq_some_iff.mp hk).1
    exact ⟨((i + 1 : Nat) : Int), 0, ω, ω2, f, hthr i k ω hk x1, fun hz => hmod ω ω2 0 hz y1, n1, fun q => by omega, by omega, hI⟩
theorem zblindH {as : List Value} {D : va_G} {A : Nat → Nat} {cI cQ cL : ClassId} {o sz : Nat} {σ : zSt} {f : Nat → Int64} : FrameBlind (va_Pc as (zHPre D A cI cQ cL o sz σ f)) := by
  intro a U g mk q
  obtain ⟨q0, q1, qP, qK, qD, qN, qv, qc, qs⟩ := q
  exact ⟨q0, q1, qP, va_K.moved (u := U) (U := U.calling g mk a) (Vm.Alike.refl U.vm) qK, qD, zNst_same (u := U) (U := U.calling g mk a) rfl qN, zTv_same (u := U) (U := U.calling g mk a) rfl qv, zNc.moved (u := U) (U := U.calling g mk a) (Vm.Alike.refl U.vm) qc, zTs.moved (u := U) (U := U.calling g mk a) (Vm.Alike.refl U.vm) qs⟩
theorem zGoodH {y : MethodName} {cc : ByteArray} {nl : Nat} {hh : List (Nat × Nat × Nat × Nat)} (h : Cond.codeWith y cc nl (some .int) hh ∈ zWL) : ∀ w ∈ Cond.codeWith y cc nl (some .int) hh :: zWL, w ∈ zWL := by
  intro w hw
  rcases List.mem_cons.mp hw with e | hw
  · rw [e]; exact h
  · exact hw
section ZHC
variable {p : Program} {l : Launch} {e : Env} {R : Room} {s : State} {mid : MethodId} {args : Array Value} {below : List Frame} {meth : Method} {c : Code} {H : Heap} {locs : List Loc} {cells slots : Nat} {Q : State → Prop}
variable {A : Nat → Nat} {A0 : Nat → Prop} {D : va_G} {cI cQ cL : ClassId} {o : Nat} {σ σ1 : zSt} {f f1 : Nat → Int64} {cc cc' : ByteArray} {nL nl pc idx n : Nat} {hh : List (Nat × Nat × Nat × Nat)} {y : MethodName} {k : Int} {ls : Array Slot} {own : String} {as : List zVal} {rest : List Value}
theorem zLW_free (hD : va_D A0 (zLW A cI cQ cL o σ f)) (hS : va_S A0 s.heap H locs) (hA : ∀ q : Nat, s.heap.size ≤ q → A0 q) : ∀ q, va_A (zLW A cI cQ cL o σ f) H.size q → A0 q := by
  intro q h
  rcases h with ⟨j, e, hj⟩ | h
  · exact hD.2 j (q, e) hj
  · exact hA q (Nat.le_trans hS.1 h)
/-- a call of a helper -/
theorem zlh_call (S : CallFix p mid c cc nL s args zWL own) (hcon : zHCon l y cc' nl hh as σ f k σ1 f1) (hw : Cond.methodLink own idx y ∈ zWL) (hst : Cond.static y ∈ zWL) (hcw : Cond.codeWith y cc' nl (some .int) hh ∈ zWL) (hini : Cond.initialized y.cls ∈ zWL) (hy : y.cls ≠ "java/lang/invoke/MethodHandle" ∧ y.cls ≠ "java/lang/invoke/VarHandle") (hpn : (parseMethodDescriptor y.desc).map (fun d => d.parameters.length) = some n) (hn : as.length + 2 = n) (hnl : nl ≤ 9) (hR : 10 ≤ R.frames ∧ 330 ≤ R.locals) (hcs : cells + 1 ≤ R.cells ∧ slots + 6 ≤ R.slots) (hsz : ls.size = nL) (hrest : (rest.map fun v => v.category).sum ≤ 8) (hdg : decode cc pc = .ok (.invokestatic idx, 3))
    (hK : va_K D zcls (zTl cI cQ cL) s) (hN : zNst s) (hTv : zTv s) (hNc : zNc s) (hTs : zTs A0 s H) (hP : va_P D zcls (zLW A cI cQ cL o σ f) H) (hD : va_D A0 (zLW A cI cQ cL o σ f)) (hS : va_S A0 s.heap H locs) (hA : ∀ q : Nat, s.heap.size ≤ q → A0 q)
    (kk : ∀ (H1 : Heap) (locs1 : List Loc), va_P D zcls (zLW A cI cQ cL o σ1 f1) H1 → va_D A0 (zLW A cI cQ cL o σ1 f1) → va_S A0 s.heap H1 locs1 → zoks σ1 → W p l e R s mid args below meth c H1 locs1 (cells + 1) (slots + 6) Q (F0 mid (pc + 3) ls (.int (Int32.ofInt k) :: rest))) :
    W p l e R s mid args below meth c H locs cells slots Q (F0 mid pc ls ((.ref (A 0) :: (as.map (zv A) ++ [.ref o])).reverse ++ rest)) := by
  have hF := zLW_free hD hS hA
  have hpre : ∀ U : State, U.heap = H → s.WarmedH U.vm → va_Pc (.ref (A 0) :: (as.map (zv A) ++ [.ref o])) (zHPre D A cI cQ cL o H.size σ f) (Value.ref (A 0) :: (as.map (zv A) ++ [.ref o])).toArray U := by
    intro U hU hW
    exact ⟨rfl, by rw [hU], by rw [hU]; exact hP, va_K.moved hW.alike hK, hD.weaken (fun _ _ _ _ => trivial), zNst_warm hW hN, zTv_warm hW hTv, zNc.moved hW.alike hNc, by rw [hU]; exact zTs.moved hW.alike (hTs.narrow hF)⟩
  have hgd : GoodIn zWL (Cond.codeWith y cc' nl (some .int) hh :: zWL) := fun w hw => zgood (zGoodH hcw w hw)
  have hr := vx_runSW (l := l) (below := below) (As := .ref (A 0) :: (as.map (zv A) ++ [.ref o])) (rest := rest) (H := H) (locs := locs) (cells := cells) (slots := slots) (meth := meth) (e := e) (R := R) (hh := hh) (n := n) (g := F0 mid pc ls ((.ref (A 0) :: (as.map (zv A) ++ [.ref o])).reverse ++ rest)) S (hcon D A cI cQ cL o H.size)
    ⟨⟨rfl, rfl, by show 9 + 1 ≤ R.frames; omega, by show 8 + (nl + 11) + 290 ≤ R.locals; omega, pay_in S.2.2.2.2 hgd, List.mem_cons_self⟩, S.2.2.2.2 _ hcw, S.2.2.2.2 _ hini, hy, fun sig h => by
      rw [h] at hpn
      exact (Option.some.inj hpn).symm, S.2.2.2.2 _ hw, S.2.2.2.2 _ hst⟩ ⟨zblindH, hpre⟩ rfl (by simp; omega) hsz rfl (lv_room hrest) hdg hcs
  intro T hT X
  obtain ⟨v', st₀, t, T', L, h0', X', hL, e1, e2, ⟨⟨hv, hP1, hok⟩, hz, hk1⟩, st⟩ := hr T hT X
  cases hv
  rw [h0'] at hz hk1
  obtain ⟨t2, a1, b1⟩ := kk T'.heap (locs ++ L) (by rw [e1]; exact hP1) (zLW_D2 hD)
    ⟨Nat.le_trans hS.1 (by rw [e1]; exact hz), fun q h1 h2 => by rw [e1, hk1 q (Nat.lt_of_lt_of_le h1 hS.1) (fun z => h2 (hF q z))]; exact hS.2.1 q h1 h2, fun q hq => by
      rcases List.mem_append.mp hq with h | h
      · exact hS.2.2 q h
      · exact hF _ (hL q h)⟩ hok T' rfl X'
  exact ⟨t2, st t2 a1, b1⟩
end ZHC
