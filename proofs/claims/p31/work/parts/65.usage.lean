/-! ===== 65: usage, as a contract ===== -/
def aw (S : Row) : Int := f1 (fun j a => zw (a + wkS S j)) (nJ S) 0
theorem s158 {σ : zSt} {S : Row} (hC : CS σ S) (hG : Good S) : zE 158 0 [some (zR 2), none, none] [] σ = zRI (aw S) σ := by
  have key := zloop1 (α := Int) (D := Unit) (nJ S) (fun j a => zw (a + wkS S j)) (fun j a _ => zE 158 4 [some (zR 2), some (zI a), some (zI (j : Int))] [] σ) (fun a => zRI a σ) (fun _ _ => True) ?_ ?_ 0 () trivial
  · rw [X158_0]
    exact key.1
  · intro j a _ hj _
    have hjl := nJ_lt.mp hj
    have hj6 := hG.j6 hjl
    refine ⟨⟨(), ?_⟩, trivial⟩
    show zE 158 4 [some (zR 2), some (zI a), some (zI (j : Int))] [] σ = _
    rw [X158_4, if_pos (by rw [hC.1.2.1]; exact hjl), s157 hC hG hjl, zbI_some, zw_nat1 (by omega)]
  · intro a _ _
    show zE 158 4 [some (zR 2), some (zI a), some (zI ((nJ S : Nat) : Int))] [] σ = _
    rw [X158_4, if_neg (by rw [hC.1.2.1]; have := hG.1.2.1; unfold nJ; omega)]
theorem opn_ok {S : Row} (hG : Good S) : ∀ n, n ≤ nJ S → 0 ≤ f1 (fun j a => zw (a + rO S j)) n 0 ∧ f1 (fun j a => zw (a + rO S j)) n 0 ≤ 5 * n ∧ (f1 (fun j a => zw (a + rO S j)) n 0 = 0 ↔ ∀ j, j < n → rO S j = 0) := by
  intro n
  induction n with
  | zero => intro _; exact ⟨Int.le_refl _, by show (0 : Int) ≤ _; omega, ⟨fun _ j hj => by omega, fun _ => rfl⟩⟩
  | succ n ih =>
    intro hn
    obtain ⟨i1, i2, i3⟩ := ih (by omega)
    have hj : (n : Int) < S 1 := nJ_lt.mp (by omega)
    have hj6 := hG.j6 hj
    have g := (hG.2.1 n hj).2.2
    show 0 ≤ zw (f1 (fun j a => zw (a + rO S j)) n 0 + rO S n) ∧ zw (f1 (fun j a => zw (a + rO S j)) n 0 + rO S n) ≤ 5 * ((n + 1 : Nat) : Int) ∧ (zw (f1 (fun j a => zw (a + rO S j)) n 0 + rO S n) = 0 ↔ _)
    rw [zw_id (by omega) (by omega)]
    refine ⟨by omega, by omega, ⟨fun q j hjn => ?_, fun q => ?_⟩⟩
    · by_cases e : j = n
      · subst e; omega
      · exact i3.mp (by omega) j (by omega)
    · have := i3.mpr (fun j hjn => q j (by omega))
      have := q n (by omega)
      omega
/-- the greatest end: 0 just where there is no operation -/
theorem gend {S : Row} {B m : Int} (hG : Good S) (hV : Val S 3 B) (hm : Mx 0 (Pend S (nJ S)) m) : 0 ≤ m ∧ (m ≤ 0 ∨ m ≤ B + 20) ∧ (opn S = 0 ↔ m = 0) := by
  obtain ⟨o1, o2, o3⟩ := opn_ok hG (nJ S) (Nat.le_refl _)
  refine ⟨hm.1, ?_, ?_⟩
  · rcases hm.2.2 with q | ⟨j, o, hj, ho, q⟩
    · exact Or.inl (by omega)
    · have hl := liveN hj ho
      have a1 := hV.1 j o hl
      have a2 := (hG.2.2.1 j o hl.1 hl.2).2
      have e : S (23 + 3 + 4 * (5 * j + o)) = sP S (5 * j + o) := rfl
      rw [e] at a1
      exact Or.inr (by omega)
  · constructor
    · intro q
      rcases hm.2.2 with q2 | ⟨j, o, hj, ho, q2⟩
      · exact q2
      · have hl := liveN hj ho
        have := o3.mp q j hj
        have := hl.2
        omega
    · intro q
      refine o3.mpr (fun j hj => ?_)
      have hjl := nJ_lt.mp hj
      have g := (hG.2.1 j hjl).2.2
      by_cases z : rO S j = 0
      · exact z
      · have hl : Live S j 0 := ⟨hjl, by omega⟩
        have a1 := hV.1 j 0 hl
        have a2 := (hG.2.2.1 j 0 hl.1 hl.2).2
        have e : S (23 + 3 + 4 * (5 * j + 0)) = sP S (5 * j + 0) := rfl
        rw [e] at a1
        have := hm.2.1 (sP S (5 * j + 0) + sU S (5 * j + 0)) ⟨j, 0, hj, nO_lt.mpr hl.2, rfl⟩
        omega
section ZU
variable {p : Program} {l : Launch} {e : Env} {R : Room} {s : State} {mid : MethodId} {args : Array Value} {below : List Frame} {meth : Method} {c : Code} {H : Heap} {locs : List Loc} {Q : State → Prop}
variable {A : Nat → Nat} {A0 : Nat → Prop} {D : va_G} {cI cQ : ClassId} {σ σ1 : zSt} {cc : ByteArray} {nL pc idx n k ci m j N : Nat} {ls : Array Slot} {own C : String} {T : u_T} {as : List zVal} {v : Option zVal} {rest : List Value}
theorem zu_get (S : CallFix p mid c cc nL s args zWL own) (hk : zcl k = ci) (h0 : ci ≠ 0) (hc : zcls[ci - 1]? = some (C, T, N)) (hj : j < N) (hnf : N = zNf ci) (hin : ∀ w ∈ u_ws C T N, w ∈ zWL) (hw : Cond.fieldLink own idx (T j).1 (T j).2.1 (T j).2.2.1 ∈ zWL) (hK : va_K D zcls (ztys cI cQ) s) (hat : zAt A A0 D cI cQ s.heap H locs σ) (hdg : decode cc pc = .ok (.getfield idx, 3)) (kk : W p l e R s mid args below meth c H locs 0 0 Q (F0 mid (pc + 3) ls (zfv A σ k j :: rest))) : W p l e R s mid args below meth c H locs 0 0 Q (F0 mid pc ls (.ref (A k) :: rest)) := by
  have hk0 : zcl k ≠ 0 := by rw [hk]; exact h0
  have hk9 := zcl_lt hk0
  have hjn : j < znf k := by rw [znf_of hk, ← hnf]; exact hj
  exact va_get (ci := ci - 1) (v := zfv A σ k j) S.1 S.2.1 S.2.2.2.2 hin S.2.2.2.1 hK hat.1 k (by rw [zW_get (by omega), zent_obj hk0, hk]) hc j hj (S.2.2.2.2 _ hw) (fun _ h9 => h9) (zfs_at hjn) hdg kk
theorem zu_getN {host : String} (S : CallFix p mid c cc nL s args zWL own) (hN : zNst s) (hk : zcl k = ci) (h0 : ci ≠ 0) (hc : zcls[ci - 1]? = some (C, T, N)) (hj : j < N) (hnf : N = zNf ci) (hin : ∀ w ∈ u_ws C T N, w ∈ zWL) (hw : Cond.fieldLinkNest own idx (T j).1 (T j).2.1 (T j).2.2.1 host ∈ zNL) (hK : va_K D zcls (ztys cI cQ) s) (hat : zAt A A0 D cI cQ s.heap H locs σ) (hdg : decode cc pc = .ok (.getfield idx, 3)) (kk : W p l e R s mid args below meth c H locs 0 0 Q (F0 mid (pc + 3) ls (zfv A σ k j :: rest))) : W p l e R s mid args below meth c H locs 0 0 Q (F0 mid pc ls (.ref (A k) :: rest)) := by
  have hk0 : zcl k ≠ 0 := by rw [hk]; exact h0
  have hk9 := zcl_lt hk0
  have hjn : j < znf k := by rw [znf_of hk, ← hnf]; exact hj
  exact va_getN (ci := ci - 1) (v := zfv A σ k j) S.1 S.2.1 S.2.2.2.2 hin S.2.2.2.1 hK hat.1 k (by rw [zW_get (by omega), zent_obj hk0, hk]) hc j hj (va_Nw.use rfl (hN _ hw)) (fun _ h9 => h9) (zfs_at hjn) hdg kk
theorem zu_iald (S : CallFix p mid c cc nL s args zWL own) (k1 : 9 ≤ k) (k2 : k < 69) (k3 : k ≠ 63) (hj : (j : Int) < zal k) (hK : va_K D zcls (ztys cI cQ) s) (hat : zAt A A0 D cI cQ s.heap H locs σ) (hdg : decode cc pc = .ok (.iaload, 1)) (hj2 : j < 1000) (kk : W p l e R s mid args below meth c H locs 0 0 Q (F0 mid (pc + 1) ls (.int (Int32.ofInt (σ k j)) :: rest))) : W p l e R s mid args below meth c H locs 0 0 Q (F0 mid pc ls (.int (Int32.ofInt (j : Int)) :: .ref (A k) :: rest)) := by
  have hir : zr (j : Int) := ⟨by omega, by omega⟩
  refine va_iald (cA := cI) (n := (zal k).toNat) (f := fun j => Int32.ofInt (σ k j)) S.1 S.2.1 hK hat.1 k 0 (by rw [zW_get k2, zent_row k1 k3]) rfl (zin hir ⟨by omega, hj⟩) hdg ?_
  rw [zof_cl hir, toNat_n]
  exact kk
theorem zu_V (S : CallFix p mid c cc nL s args zWL own) (hcon : zCon l m (zR k :: as) σ v σ1) (h0 : ci ≠ 0) (hk : zcl k = ci) (hc : zcls[ci - 1]? = some (C, T, N)) (hw : Cond.methodLink own idx (zmY m) ∈ zWL) (hin : Cond.instanceMethod (zmY m) ∈ zWL) (hse : Cond.selects C (zmY m) (zmY m) ∈ zWL) (hM : zMok m) (hpn : (parseMethodDescriptor (zmY m).desc).map (fun d => d.parameters.length) = some n) (hn : as.length = n) (hh : zmH m + 1 ≤ R.frames) (hlc : 19 + zmX m + 32 * zmH m ≤ R.locals) (hsz : ls.size = nL) (hrest : (rest.map fun v => v.category).sum ≤ 8) (hdg : decode cc pc = .ok (.invokevirtual idx, 3)) (hK : va_K D zcls (ztys cI cQ) s) (hN : zNst s) (hat : zAt A A0 D cI cQ s.heap H locs σ) (hA : ∀ q : Nat, s.heap.size ≤ q → A0 q)
    (kk : ∀ (H1 : Heap) (locs1 : List Loc), zAt A A0 D cI cQ s.heap H1 locs1 σ1 → zoks σ1 → (∀ x ∈ v.toList, zok x) → W p l e R s mid args below meth c H1 locs1 0 0 Q (F0 mid (pc + 3) ls ((v.map (zv A)).toList ++ rest))) :
    W p l e R s mid args below meth c H locs 0 0 Q (F0 mid pc ls ((as.map (zv A)).reverse ++ .ref (A k) :: rest)) := by
  have hk0 : zcl k ≠ 0 := by rw [hk]; exact h0
  have hk9 := zcl_lt hk0
  exact zcall_go (rest := rest) (va_runV (C := C) (b := A k) (As := as.map (zv A)) (rest := rest) S (hcon D A cI cQ H.size) ⟨callB_of (ret := zmR m) n S.2.2.2.2 (zGoodIn hM) rfl rfl rfl (S.2.2.2.2 _ hM.1.2) (S.2.2.2.2 _ hw) ⟨hM.2.2.1, hM.2.2.2, hpn⟩ ⟨hh, by show 8 + (zmX m + 11) + 32 * zmH m ≤ R.locals; omega⟩, S.2.2.2.2 _ hin, S.2.2.2.2 _ hse⟩ ⟨zblind, va_recv hK hat.1 (ci := ci - 1) (q0 := k) hc (by rw [zW_get (by omega), zent_obj hk0, hk]), zpre hat hK hN (.ref (A k) :: as.map (zv A))⟩ rfl (by simp [hn]) hsz rfl (lv_room hrest) hdg ⟨Nat.zero_le _, Nat.zero_le _⟩) hat hA kk
theorem zu_VN {host : String} (S : CallFix p mid c cc nL s args zWL own) (hcon : zCon l m (zR k :: as) σ v σ1) (h0 : ci ≠ 0) (hk : zcl k = ci) (hc : zcls[ci - 1]? = some (C, T, N)) (hw : Cond.methodLinkNest own idx (zmY m) host ∈ zNL) (hin : Cond.instanceMethod (zmY m) ∈ zWL) (hse : Cond.selects C (zmY m) (zmY m) ∈ zWL) (hM : zMok m) (hpn : (parseMethodDescriptor (zmY m).desc).map (fun d => d.parameters.length) = some n) (hn : as.length = n) (hh : zmH m + 1 ≤ R.frames) (hlc : 19 + zmX m + 32 * zmH m ≤ R.locals) (hsz : ls.size = nL) (hrest : (rest.map fun v => v.category).sum ≤ 8) (hdg : decode cc pc = .ok (.invokevirtual idx, 3)) (hK : va_K D zcls (ztys cI cQ) s) (hN : zNst s) (hat : zAt A A0 D cI cQ s.heap H locs σ) (hA : ∀ q : Nat, s.heap.size ≤ q → A0 q)
    (kk : ∀ (H1 : Heap) (locs1 : List Loc), zAt A A0 D cI cQ s.heap H1 locs1 σ1 → zoks σ1 → (∀ x ∈ v.toList, zok x) → W p l e R s mid args below meth c H1 locs1 0 0 Q (F0 mid (pc + 3) ls ((v.map (zv A)).toList ++ rest))) :
    W p l e R s mid args below meth c H locs 0 0 Q (F0 mid pc ls ((as.map (zv A)).reverse ++ .ref (A k) :: rest)) := by
  have hk0 : zcl k ≠ 0 := by rw [hk]; exact h0
  have hk9 := zcl_lt hk0
  exact zcall_go (rest := rest) (va_runVN (C := C) (b := A k) (As := as.map (zv A)) (rest := rest) S (hcon D A cI cQ H.size) ⟨va_cnB (ret := zmR m) n S.2.2.2.2 (zGoodIn hM) rfl rfl rfl (hN _ hw) (S.2.2.2.2 _ hM.1.2) ⟨hM.2.2.1, hM.2.2.2, hpn⟩ ⟨hh, by show 8 + (zmX m + 11) + 32 * zmH m ≤ R.locals; omega⟩, S.2.2.2.2 _ hin, S.2.2.2.2 _ hse⟩ ⟨zblind, va_recv hK hat.1 (ci := ci - 1) (q0 := k) hc (by rw [zW_get (by omega), zent_obj hk0, hk]), zpre hat hK hN (.ref (A k) :: as.map (zv A))⟩ rfl (by simp [hn]) hsz rfl (lv_room hrest) hdg ⟨Nat.zero_le _, Nat.zero_le _⟩) hat hA kk
end ZU
theorem zcon0 (l : Launch) {m k : Nat} {σ σ1 : zSt} {v : Int} (h : zE m 0 (zpad (zmX m) (zlay [zR k])) [] σ = zRI v σ1) (hM : zMok m) (hlen : (zlay [zR k]).length ≤ zmX m) (hσ : zoks σ) : zCon l m [zR k] σ (some (zI v)) σ1 := zE_con l h hM hlen (fun a ha => by rw [List.mem_singleton.mp ha]; trivial) hσ
theorem zqu_2 : Cond.fieldLinkNest RX4 228 RX3 "machines" "I" "RepairShop" ∈ zNL := znl 79 (by decide +kernel) rfl
theorem zqu_4 : Cond.methodLinkNest RX4 269 yX3_allWork "RepairShop" ∈ zNL := znl 634 (by decide +kernel) rfl
theorem zqu_6 : Cond.instanceMethod yX3_allWork ∈ zWL := zwl 636 (by decide +kernel) rfl
theorem zqu_8 : Cond.selects RX3 yX3_allWork yX3_allWork ∈ zWL := zwl 40 (by decide +kernel) rfl
/-- the class's usage -/
theorem c_usage (l : Launch) {σ : zSt} {S : Row} {B : Int} (h : ShC (shF σ 0) (shA σ 0) S) (hO : Ok S B) (hB : B ≤ 700000) (hσ : zoks σ) (r : UInt64) (hr1 : S 3 = 1 ∧ opn S ≠ 0 → ∀ m, Mx 0 (Pend S (nJ S)) m → r = FP.ddiv (FP.i2d (Int32.ofInt (aw S))) (FP.i2d (Int32.ofInt (S 0 * m))) ∧ vf_n64 r) (hr0 : ¬ (S 3 = 1 ∧ opn S ≠ 0) → r = FP.dconst0) : zDCon l σ r := by
  have hG := hO.1
  have g0 := hG.1.1
  have g3 := hG.1.2.2.2
  have f0 : σ 2 0 = S 0 := h.1.1
  have f3 : σ 2 11 = S 3 := h.1.2.2.2.1
  intro D A cI cQ sz
  refine Met.ofW (cc := cX4_usage) (maxL := 2) (ret := some .double) (by decide +kernel) rfl ?_
  intro p e s mid args below meth c s₁ Bd hml hv
  obtain ⟨rfl, hsz, hP, hK, hD0, hN⟩ := hv
  have hr := Bd.returns
  have hts := atoms_spec (ws := Cond.code yX4_usage cX4_usage 2 (some .double) :: zWL) Bd.pre
  have hown : s.vm.findClass RX4 = some mid.cls := findClass_of_methodNamed Bd.named
  have hlk := Bd.notSynchronized
  subst hsz
  have hD := hD0.self (sz := s.heap.size)
  have S0 : CallFix p mid c cX4_usage 2 s #[.ref (A 0)] zWL RX4 := ⟨Bd.exec, Bd.bytes, hml, hown, fun w hw => hts w (List.mem_cons_of_mem _ hw)⟩
  have hx := S0.1
  have hb := S0.2.1
  have hN0 : zNst s := hN
  have hK0 : va_K D zcls (ztys cI cQ) s := hK
  have hA : ∀ q : Nat, s.heap.size ≤ q → va_A (zW A cI cQ σ) s.heap.size q := fun q h => Or.inr h
  have hat : zAt A (va_A (zW A cI cQ σ) s.heap.size) D cI cQ s.heap s.heap [] σ := ⟨hP, hD, va_S.rf⟩
  have hl := lv_entry ([.ref (A 0)]) (n := 2) (Nat.le_of_ble_eq_true rfl)
  rw [lg_entry_eq]
  generalize (lg_sl ([.ref (A 0)]) ++ List.replicate (2 - (lg_sl ([.ref (A 0)])).length) Slot.unset).toArray = ls at hl ⊢
  have hl : lv_has ls 2 [(0, .ref (A 0))] := hl
  -- the end with 0.0
  have zer : ∀ (H : Heap) (locs : List Loc) (ls : Array Slot), zAt A (va_A (zW A cI cQ σ) s.heap.size) D cI cQ s.heap H locs σ → ¬ (S 3 = 1 ∧ opn S ≠ 0) → W p l e zRu s mid #[.ref (A 0)] below meth c H locs 0 0 (MQ below (zDPost D A cI cQ s.heap.size σ r) #[.ref (A 0)] s 0 0 (va_A (zW A cI cQ σ) s.heap.size)) (F0 mid 34 ls []) := by
    intro H locs ls hat hno
    refine lv_dconst0 hx hb (by decide +kernel : decode cX4_usage 34 = .ok (.dconst 0, 1)) ?_
    rw [← hr0 hno]
    exact W.dret hx hb hr (fun t ht hW => ⟨⟨rfl, by rw [ht]; exact hat.1, hat.2.1⟩, hat.2.2.F ht⟩) hat.2.2.2.2 (by decide +kernel : decode cX4_usage 35 = .ok (.dreturn, 1)) hlk
  refine lv_aload_n hx hb (by decide +kernel : decode cX4_usage 0 = .ok (.aload_n 0, 1)) rfl (lv_at hl 0 rfl) ?_
  refine zu_get (k := 0) (ci := 5) (j := 1) S0 rfl (by decide) rfl (by decide) rfl zin_5 zq_2 hK0 hat (by decide +kernel : decode cX4_usage 1 = .ok (.getfield 20, 3)) ?_
  refine zu_getN (k := 2) (ci := 4) (j := 11) S0 hN0 rfl (by decide) rfl (by decide) rfl zin_4 zq_37 hK0 hat (by decide +kernel : decode cX4_usage 4 = .ok (.getfield 124, 3)) ?_
  have e11 : zfv A σ 2 11 = .int (Int32.ofInt (S 3)) := by rw [← f3]; rfl
  rw [e11]
  refine lv_if_eq (tgt := 28) hx hb (by decide +kernel : decode cX4_usage 7 = .ok (.ifCond .eq 21, 3)) (by decide) (fun c0 => ?_) (fun c0 => ?_)
  · have c3 : S 3 = 0 := (zof_eq0 ⟨by omega, by omega⟩).mp c0
    refine lv_iconst (v := 0) hx hb (by decide +kernel : decode cX4_usage 28 = .ok (.iconst 0, 1)) (by decide) ?_
    refine lv_istore_n (lv' := [(1, .int 0), (0, .ref (A 0))]) hx hb (by decide +kernel : decode cX4_usage 29 = .ok (.istore_n 1, 1)) rfl hl (by decide) rfl (fun ls hl => ?_)
    refine lv_iload_n hx hb (by decide +kernel : decode cX4_usage 30 = .ok (.iload_n 1, 1)) rfl (lv_at hl 0 rfl) ?_
    refine lv_if_gt (tgt := 36) hx hb (by decide +kernel : decode cX4_usage 31 = .ok (.ifCond .gt 5, 3)) (by decide) (fun q => absurd q (by decide)) (fun _ => ?_)
    exact zer _ _ ls hat (fun q => by omega)
  · have c3 : S 3 = 1 := by
      rcases g3 with q | q
      · exact absurd (by rw [q]; rfl) c0
      · exact q
    obtain ⟨v2, v3⟩ := hO.2 c3
    obtain ⟨m, em, hm⟩ := s162 h.cs hG v3 (by omega) (fun j o hl => (h.2.2.2.2 c3 j o hl).2)
    obtain ⟨m0, m1, m2⟩ := gend hG v3 hm
    refine lv_aload_n hx hb (by decide +kernel : decode cX4_usage 10 = .ok (.aload_n 0, 1)) rfl (lv_at hl 0 rfl) ?_
    refine zu_get (k := 0) (ci := 5) (j := 1) S0 rfl (by decide) rfl (by decide) rfl zin_5 zq_2 hK0 hat (by decide +kernel : decode cX4_usage 11 = .ok (.getfield 20, 3)) ?_
    refine zu_getN (k := 2) (ci := 4) (j := 0) S0 hN0 rfl (by decide) rfl (by decide) rfl zin_4 zqu_2 hK0 hat (by decide +kernel : decode cX4_usage 14 = .ok (.getfield 228, 3)) ?_
    have e0 : zfv A σ 2 0 = .int (Int32.ofInt (S 0)) := by rw [← f0]; rfl
    rw [e0]
    refine lv_aload_n hx hb (by decide +kernel : decode cX4_usage 17 = .ok (.aload_n 0, 1)) rfl (lv_at hl 0 rfl) ?_
    refine zu_get (k := 0) (ci := 5) (j := 1) S0 rfl (by decide) rfl (by decide) rfl zin_5 zq_2 hK0 hat (by decide +kernel : decode cX4_usage 18 = .ok (.getfield 20, 3)) ?_
    refine zu_VN (k := 2) (ci := 4) (n := 0) (m := 162) (as := []) (rest := [.int (Int32.ofInt (S 0))]) S0 (zcon0 l em zMk_162 (Nat.le_of_ble_eq_true rfl) hσ) (by decide) rfl rfl zq_111 zq_112 zq_113 zMk_162 (by decide +kernel) rfl (by decide +kernel) (by decide +kernel) hl.1 (Nat.le_of_ble_eq_true rfl) (by decide +kernel : decode cX4_usage 21 = .ok (.invokevirtual 266, 3)) hK0 hN0 hat hA (fun H1 locs1 hat hok hvs => ?_)
    refine lv_imul hx hb (by decide +kernel : decode cX4_usage 24 = .ok (.imul, 1)) ?_
    rw [← Int32.ofInt_mul]
    refine lv_goto (tgt := 29) hx hb (by decide +kernel : decode cX4_usage 25 = .ok (.goto 4, 3)) (by decide) ?_
    refine lv_istore_n (lv' := [(1, .int (Int32.ofInt (S 0 * m))), (0, .ref (A 0))]) hx hb (by decide +kernel : decode cX4_usage 29 = .ok (.istore_n 1, 1)) rfl hl (by decide) rfl (fun ls hl => ?_)
    refine lv_iload_n hx hb (by decide +kernel : decode cX4_usage 30 = .ok (.iload_n 1, 1)) rfl (lv_at hl 0 rfl) ?_
    have bd : 0 ≤ S 0 * m ∧ S 0 * m ≤ 5 * 800000 := by
      refine ⟨Int.mul_nonneg (by omega) m0, Int.mul_le_mul g0.2 (by omega) m0 (by omega)⟩
    refine lv_if_gt (tgt := 36) hx hb (by decide +kernel : decode cX4_usage 31 = .ok (.ifCond .gt 5, 3)) (by decide) (fun q => ?_) (fun q => ?_)
    · have q2 : 0 < S 0 * m := (zof_0lt ⟨by omega, by omega⟩).mp q
      have hno : opn S ≠ 0 := fun z => by
        rw [m2.mp z, Int.mul_zero] at q2
        omega
      refine lv_aload_n hx hb (by decide +kernel : decode cX4_usage 36 = .ok (.aload_n 0, 1)) rfl (lv_at hl 1 rfl) ?_
      refine zu_get (k := 0) (ci := 5) (j := 1) S0 rfl (by decide) rfl (by decide) rfl zin_5 zq_2 hK0 hat (by decide +kernel : decode cX4_usage 37 = .ok (.getfield 20, 3)) ?_
      refine zu_VN (k := 2) (ci := 4) (n := 0) (m := 158) (as := []) (rest := []) S0 (zcon0 l (s158 h.cs hG) zMk_158 (Nat.le_of_ble_eq_true rfl) hσ) (by decide) rfl rfl zqu_4 zqu_6 zqu_8 zMk_158 (by decide +kernel) rfl (by decide +kernel) (by decide +kernel) hl.1 (Nat.le_of_ble_eq_true rfl) (by decide +kernel : decode cX4_usage 40 = .ok (.invokevirtual 269, 3)) hK0 hN0 hat hA (fun H2 locs2 hat hok hvs => ?_)
      refine lv_i2d hx hb (by decide +kernel : decode cX4_usage 43 = .ok (.i2d, 1)) ?_
      refine lv_iload_n hx hb (by decide +kernel : decode cX4_usage 44 = .ok (.iload_n 1, 1)) rfl (lv_at hl 0 rfl) ?_
      refine lv_i2d hx hb (by decide +kernel : decode cX4_usage 45 = .ok (.i2d, 1)) ?_
      obtain ⟨hre, hrn⟩ := hr1 ⟨c3, hno⟩ m hm
      refine lv_ddiv hx hb (by decide +kernel : decode cX4_usage 46 = .ok (.ddiv, 1)) (by rw [← hre]; exact hrn) ?_
      rw [← hre]
      exact W.dret hx hb hr (fun t ht hW => ⟨⟨rfl, by rw [ht]; exact hat.1, hat.2.1⟩, hat.2.2.F ht⟩) hat.2.2.2.2 (by decide +kernel : decode cX4_usage 47 = .ok (.dreturn, 1)) hlk
    · have q2 : ¬ 0 < S 0 * m := fun z => q ((zof_0lt ⟨by omega, by omega⟩).mpr z)
      refine zer _ _ ls hat (fun z => ?_)
      have : m ≠ 0 := fun w => z.2 (m2.mpr w)
      have : 0 < S 0 * m := Int.mul_pos (by omega) (by omega)
      omega
/-- usage without a plan, and with one, as the law reckons it -/
theorem c_us0 {σ : zSt} {S : Row} {B : Int} (h : CR σ S B) (hB : B ≤ 700000) (w : S 3 = 0) : zUok σ FP.dconst0 := fun hσ l => c_usage l h.sh h.ok hB hσ _ (fun q => by omega) (fun _ => rfl)
theorem aw_le {S : Row} (hG : Good S) (h3 : L3 S) : 0 ≤ aw S ∧ aw S ≤ 300 := by
  have wk1 : ∀ j, j < 3 → 0 ≤ wkS S j ∧ wkS S j ≤ 80 := by
    intro j hj
    have hjl : (j : Int) < S 1 := by rw [h3.1.2]; omega
    have g4 := h3.2.2 j hj
    have e : ∀ n, n ≤ nO S j → 0 ≤ f1 (fun o a => zw (a + sU S (5 * j + o))) n 0 ∧ f1 (fun o a => zw (a + sU S (5 * j + o))) n 0 ≤ 20 * n := by
      intro n
      induction n with
      | zero => intro _; exact ⟨Int.le_refl _, Int.le_refl _⟩
      | succ n ih =>
        intro hn
        obtain ⟨i1, i2⟩ := ih (by omega)
        have hl : Live S j n := ⟨hjl, nO_lt.mp (by omega)⟩
        have g5 := (hG.2.2.1 j n hl.1 hl.2).2
        have n4 : n < 5 := hG.o5 hl
        show 0 ≤ zw (f1 (fun o a => zw (a + sU S (5 * j + o))) n 0 + sU S (5 * j + n)) ∧ zw (f1 (fun o a => zw (a + sU S (5 * j + o))) n 0 + sU S (5 * j + n)) ≤ 20 * ((n + 1 : Nat) : Int)
        rw [zw_id (by omega) (by omega)]
        omega
    have q := e (nO S j) (Nat.le_refl _)
    have hn : nO S j ≤ 4 := by unfold nO; omega
    unfold wkS
    omega
  have e : ∀ n, n ≤ 3 → 0 ≤ f1 (fun j a => zw (a + wkS S j)) n 0 ∧ f1 (fun j a => zw (a + wkS S j)) n 0 ≤ 80 * n := by
    intro n
    induction n with
    | zero => intro _; exact ⟨Int.le_refl _, Int.le_refl _⟩
    | succ n ih =>
      intro hn
      obtain ⟨i1, i2⟩ := ih (by omega)
      have g5 := wk1 n (by omega)
      show 0 ≤ zw (f1 (fun j a => zw (a + wkS S j)) n 0 + wkS S n) ∧ zw (f1 (fun j a => zw (a + wkS S j)) n 0 + wkS S n) ≤ 80 * ((n + 1 : Nat) : Int)
      rw [zw_id (by omega) (by omega)]
      omega
  have q := e 3 (Nat.le_refl _)
  unfold aw
  rw [nJ3 h3]
  omega
theorem c_us1 {σ : zSt} {S : Row} {B : Int} (h : CR σ S B) (hB : B ≤ 700000) (h3 : L3 S) (w : S 3 = 1) {m : Int} (hm : Mx 0 (Pend S (nJ S)) m) : zUq σ m (opn S) (aw S) := by
  have hG := h.ok.1
  obtain ⟨v2, v3⟩ := h.ok.2 w
  obtain ⟨m0, m1, m2⟩ := gend hG v3 hm
  have ha := aw_le hG h3
  by_cases c : opn S = 0
  · exact Or.inl ⟨c, fun hσ l => c_usage l h.sh h.ok hB hσ _ (fun q => absurd c q.2) (fun _ => rfl)⟩
  · have hm0 : m ≠ 0 := fun z => c (m2.mpr z)
    have hn : vf_n64 (zUd (aw S) m) := zud_num (by omega) (by omega)
    refine Or.inr ⟨c, fun hσ l => c_usage l h.sh h.ok hB hσ _ (fun _ m' hm' => ?_) (fun q => absurd ⟨w, c⟩ q), hn⟩
    refine ⟨?_, hn⟩
    rw [hm'.uniq hm, h3.1.1]
    rfl
