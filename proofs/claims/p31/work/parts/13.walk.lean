/-! ===== 13: what the small machine comes to, the machine comes to ===== -/
section ZWALK
variable {p : Program} {l : Launch} {e : Env} {R : Room} {s : State} {mid : MethodId} {args : Array Value} {below : List Frame} {meth : Method} {c : Code} {A : Nat → Nat} {A0 : Nat → Prop} {D : va_G} {cI cQ : ClassId} {Q : State → Prop}
/-- where the walk may end: at a return with the answer v, or at a throw -/
def zEnd (m : Nat) (p : Program) (l : Launch) (e : Env) (R : Room) (s : State) (mid : MethodId) (args : Array Value) (below : List Frame) (meth : Method) (c : Code) (A : Nat → Nat) (A0 : Nat → Prop) (D : va_G) (cI cQ : ClassId) (Q : State → Prop) (out : zOut) : Prop := match out with
  | .inl (v, σ') => ∀ (pc : Nat) (ls : Array Slot) (H : Heap) (locs : List Loc), zRet m pc v → zoks σ' → (∀ x ∈ v.toList, zok x) → ls.size = zmX m → zAt A A0 D cI cQ s.heap H locs σ' → W p l e R s mid args below meth c H locs R.cells R.slots Q (F0 mid pc ls (v.toList.map (zv A)))
  | .inr ((k, L), σ') => 1000 ≤ k ∧ ∀ (pc : Nat) (ls : Array Slot) (H : Heap) (locs : List Loc), k = 1000 + pc → zLH A (zmX m) L ls → (∀ (i : Nat) (v : zVal), L[i]? = some (some v) → zok v) → zoks σ' → zAt A A0 D cI cQ s.heap H locs σ' → W p l e R s mid args below meth c H locs R.cells R.slots Q (F0 mid pc ls [])
end ZWALK
theorem zlay_at : ∀ (as : List zVal) (i : Nat) (v : zVal), (zlay as)[i]? = some (some v) → v ∈ as
  | [], i, v, h => by simp [zlay] at h
  | .inl x :: r, i, v, h => by
    cases i with
    | zero => simp [zlay] at h; rw [← h]; exact List.mem_cons_self
    | succ i => simp [zlay] at h; exact List.mem_cons_of_mem _ (zlay_at r i v h)
  | .inr (.inl x) :: r, i, v, h => by
    cases i with
    | zero => simp [zlay] at h; rw [← h]; exact List.mem_cons_self
    | succ i => simp [zlay] at h; exact List.mem_cons_of_mem _ (zlay_at r i v h)
  | .inr (.inr x) :: r, i, v, h => by
    match i with
    | 0 => simp [zlay] at h; rw [← h]; exact List.mem_cons_self
    | 1 => simp [zlay] at h
    | i + 2 => simp [zlay] at h; exact List.mem_cons_of_mem _ (zlay_at r i v h)
theorem zpad_at {n : Nat} {L : zLc} {i : Nat} {v : zVal} (h : (zpad n L)[i]? = some (some v)) : L[i]? = some (some v) := by
  unfold zpad at h
  by_cases hi : i < L.length
  · rw [List.getElem?_append_left hi] at h; exact h
  · rw [List.getElem?_append_right (by omega)] at h
    rw [List.getElem?_replicate] at h
    split at h <;> cases h
theorem zlay_len (as : List zVal) : ∀ A, (zlay as).length = (lg_sl (as.map (zv A))).length := by
  intro A
  induction as with
  | nil => rfl
  | cons a r ih =>
    have e : lg_sl ((a :: r).map (zv A)) = lg_sl [zv A a] ++ lg_sl (r.map (zv A)) := by simp [lg_sl]
    rw [e, List.length_append, ← ih]
    rcases a with x | (k | x) <;> simp [zlay, lg_sl, zv, Value.category] <;> omega
theorem zlay_args : ∀ (as : List zVal) (A : Nat → Nat) (k i : Nat) (v : zVal), (zlay as)[i]? = some (some v) → (k + i, zv A v) ∈ lv_args k (as.map (zv A))
  | [], A, k, i, v, h => by simp [zlay] at h
  | .inl x :: r, A, k, i, v, h => by
    cases i with
    | zero => simp [zlay] at h; subst h; simp [lv_args]
    | succ i =>
      simp [zlay] at h
      have := zlay_args r A (k + 1) i v h
      have e : k + (i + 1) = k + 1 + i := by omega
      rw [e]
      exact List.mem_cons_of_mem _ this
  | .inr (.inl x) :: r, A, k, i, v, h => by
    cases i with
    | zero => simp [zlay] at h; subst h; simp [lv_args]
    | succ i =>
      simp [zlay] at h
      have := zlay_args r A (k + 1) i v h
      have e : k + (i + 1) = k + 1 + i := by omega
      rw [e]
      exact List.mem_cons_of_mem _ this
  | .inr (.inr x) :: r, A, k, i, v, h => by
    match i with
    | 0 => simp [zlay] at h; subst h; simp [lv_args]
    | 1 => simp [zlay] at h
    | i + 2 =>
      simp [zlay] at h
      have := zlay_args r A (k + 2) i v h
      have e : k + (i + 2) = k + 2 + i := by omega
      rw [e]
      exact List.mem_cons_of_mem _ this
/-- the locals at a method's entry -/
theorem zentry {A : Nat → Nat} {as : List zVal} {n : Nat} (h : (zlay as).length ≤ n) : zLH A n (zpad n (zlay as)) ((lg_sl (as.map (zv A)) ++ List.replicate (n - (lg_sl (as.map (zv A))).length) Slot.unset).toArray) := by
  have h1 := lv_entry (as.map (zv A)) (n := n) (by rw [← zlay_len]; exact h)
  refine ⟨by simp [zpad]; omega, h1.1, h1.2.1, fun i v hi => ?_⟩
  have h2 := zlay_args as A 0 i v (zpad_at hi)
  rw [Nat.zero_add] at h2
  exact h1.2.2 _ h2
/-- the walk: if every step's calls are granted for shorter runs -/
theorem zwalk : ∀ (n m : Nat) (pc : Nat) (L : zLc) (st : List zVal) (σ : zSt) (out : zOut), zev n m pc L st σ = some out →
    ∀ (p : Program) (l : Launch) (e : Env) (R : Room) (s : State) (mid : MethodId) (args : Array Value) (below : List Frame) (meth : Method) (c : Code) (A : Nat → Nat) (A0 : Nat → Prop) (D : va_G) (cI cQ : ClassId) (Q : State → Prop), zCx m p R s mid args meth c A0 D cI cQ →
      (∀ (k : Nat), k < n → ∀ (m' : Nat) (as : List zVal) (σ1 : zSt) (v : Option zVal) (σ2 : zSt), zev k m' 0 (zpad (zmX m') (zlay as)) [] σ1 = some (.inl (v, σ2)) → zMok m' → (zlay as).length ≤ zmX m' → (∀ a ∈ as, zok a) → zoks σ1 → zCon l m' as σ1 v σ2) →
      zEnd m p l e R s mid args below meth c A A0 D cI cQ Q out → zG m p l e R s mid args below meth c A A0 D cI cQ Q (pc, L, st, σ) := by
  intro n
  induction n with
  | zero => intro m pc L st σ out h; simp [zev] at h
  | succ n ih =>
    intro m pc L st σ out h p l e R s mid args below meth c A A0 D cI cQ Q C IH hend
    have hs := zT m pc p l e R s mid args below meth c A A0 D cI cQ Q C L st σ
    rw [zev] at h
    rcases hc : zcode m pc L st σ with _ | (⟨pc', ls', st', σ'⟩ | ⟨v, σ'⟩ | ⟨m', as, nl, rk, pc', ls', st', σ'⟩ | ⟨⟨k, L'⟩, σ'⟩)
    · rw [hc] at h; cases h
    · rw [hc] at h
      exact hs _ hc (ih m pc' ls' st' σ' out h p l e R s mid args below meth c A A0 D cI cQ Q C (fun k hk => IH k (by omega)) hend)
    · rw [hc] at h
      cases h
      obtain ⟨e1, e2, e3⟩ := hs _ hc
      subst e1; subst e2
      intro H locs ls hat hlh hwf
      exact hend pc ls H locs e3 hwf.2.2 hwf.2.1 hlh.2.1 hat
    · rw [hc] at h
      obtain ⟨e1, e5, e6, e2, e3, e4⟩ := hs _ hc
      dsimp only at h e1 e2 e3 e4 e5 e6
      subst e1; subst e2
      rcases hr : zev n m' 0 (zpad (zmX m') (zlay as)) [] σ' with _ | (⟨v, σ''⟩ | e)
      · rw [hr] at h; cases h
      · rw [hr] at h
        dsimp only at h
        rcases hk : zrk rk v with _ | vs
        · rw [hk] at h; cases h
        · rw [hk] at h
          intro H locs ls hat hlh hwf
          have q1 := IH n (by omega) m' as σ' v σ'' hr e6 e5 (fun a ha => hwf.2.1 a (e3 a ha)) hwf.2.2
          exact e4 v σ'' vs q1 hk (ih m pc' ls' (vs ++ st') σ'' out h p l e R s mid args below meth c A A0 D cI cQ Q C (fun k hk => IH k (by omega)) hend) H locs ls hat hlh hwf
      · rw [hr] at h; cases h
    · rw [hc] at h
      cases h
      obtain ⟨e0, e1, e2⟩ := hs _ hc
      subst e1; subst e0
      obtain ⟨e3, e4⟩ := e2 hend.1
      subst e4
      intro H locs ls hat hlh hwf
      exact hend.2 pc ls H locs e3 hlh hwf.1 hwf.2.2 hat
/-- a run that returns is a contract -/
theorem zcon (l : Launch) : ∀ (n m : Nat) (as : List zVal) (σ : zSt) (v : Option zVal) (σ' : zSt), zev n m 0 (zpad (zmX m) (zlay as)) [] σ = some (.inl (v, σ')) → zMok m → (zlay as).length ≤ zmX m → (∀ a ∈ as, zok a) → zoks σ → zCon l m as σ v σ' := by
  intro n
  induction n using Nat.strongRecOn with
  | _ n IH =>
    intro m as σ v σ' h hM hlen has hσ D A cI cQ sz
    refine Met.ofW (cc := zmB m) (maxL := zmX m) (ret := zmR m) hM.2.1 rfl ?_
    intro p e s mid args below meth c s₁ B hml hv
    obtain ⟨rfl, hsz, hP, hK, hD0, hN⟩ := hv
    have hx := B.exec
    have hb := B.bytes
    have hr := B.returns
    have hts := atoms_spec (ws := zmW m) B.pre
    have hown : s.vm.findClass (zmY m).cls = some mid.cls := findClass_of_methodNamed B.named
    have hlocks := B.notSynchronized
    subst hsz
    have hD := hD0.self (sz := s.heap.size)
    have hS : va_S (va_A (zW A cI cQ σ) s.heap.size) s.heap s.heap [] := va_S.rf
    rw [lg_entry_eq]
    have hLH := zentry (A := A) hlen
    have hCx : zCx m p (zRm m) s mid ((as.map (zv A)).toArray) meth c (va_A (zW A cI cQ σ) s.heap.size) D cI cQ :=
      ⟨hx, hb, hml, hr, hlocks, hown, fun w hw => hts w (List.mem_cons_of_mem _ hw), hN, hK, fun q hq => Or.inr hq, Nat.le_refl _, Nat.le_refl _⟩
    have hG := zwalk n m 0 _ [] σ _ h p l e (zRm m) s mid ((as.map (zv A)).toArray) below meth c A (va_A (zW A cI cQ σ) s.heap.size) D cI cQ (MQ below (zPost D A cI cQ s.heap.size σ v σ') ((as.map (zv A)).toArray) s 0 0 (va_A (zW A cI cQ σ) s.heap.size)) hCx
      (fun k hk m' as' σ1 v' σ2 h1 h2 h3 h4 h5 => IH k hk m' as' σ1 v' σ2 h1 h2 h3 h4 h5) ?_
    · exact hG s.heap [] _ ⟨hP, hD, hS⟩ hLH ⟨fun i w hw => has w (zlay_at as i w (zpad_at hw)), (fun v hv => by cases hv), hσ⟩
    · intro pc ls H locs hret hok hvo hls hat
      have hpost : ∀ t : State, t.heap = H → s.WarmedH t.vm → zPost D A cI cQ s.heap.size σ v σ' ((as.map (zv A)).toArray) s (.returned (v.map (zv A))) t := fun t ht hW => ⟨⟨rfl, by rw [ht]; exact hat.1, hat.2.1, hok, hvo⟩, hat.2.2.F ht⟩
      rcases v with _ | (x | (k | x))
      · exact W.vret hx hb (hr.trans hret.1) hpost hat.2.2.2.2 hret.2 hlocks
      · obtain ⟨h1, h2⟩ := hret
        rcases h1 with h1 | ⟨h1, h3⟩
        · exact W.iret hx hb (hr.trans h1) hpost hat.2.2.2.2 h2 hlocks
        · exact W.zret hx hb (hr.trans h1) (by rcases h3 with q | q <;> rw [q] <;> rfl) hpost hat.2.2.2.2 h2 hlocks
      · exact hret.elim
      · exact W.lret hx hb (hr.trans hret.1) hpost hat.2.2.2.2 hret.2 hlocks
theorem zE_con (l : Launch) {m : Nat} {as : List zVal} {σ : zSt} {v : Option zVal} {σ' : zSt} (h : zE m 0 (zpad (zmX m) (zlay as)) [] σ = some (.inl (v, σ'))) (hM : zMok m) (hlen : (zlay as).length ≤ zmX m) (has : ∀ a ∈ as, zok a) (hσ : zoks σ) : zCon l m as σ v σ' := by
  obtain ⟨n, hn⟩ := zE_iff.mp h
  exact zcon l n m as σ v σ' hn hM hlen has hσ
