/-! ===== 63: a run that throws is a contract that throws ===== -/
section ZTHR
variable {p : Program} {l : Launch} {e : Env} {R : Room} {s : State} {mid : MethodId} {args : Array Value} {below : List Frame} {meth : Method} {c : Code} {A0 : Nat → Prop} {D : va_G} {cI cQ : ClassId} {H : Heap} {locs : List Loc}
theorem zthr_W {m pc k : Nat} (C : zCx m p R s mid args meth c A0 D cI cQ) (hl : l.stackTraces = false) (hs : zSite m pc k) (htab : ∀ x ∈ c.exceptionTable.toList, False) (hv : zTv s) (ht : zTs A0 s s.heap) (hS : va_S A0 s.heap H locs) {ls : Array Slot} (hsz : ls.size = zmX m) (hR : 6 ≤ R.frames ∧ 82 ≤ R.locals ∧ 1 ≤ R.cells ∧ 6 ≤ R.slots) {Qc : Array Value → State → Outcome → State → Prop} {XC : String → State → State → Prop} {free : Addr → Prop} (hf : ∀ z ∈ locs, free z.base) (hx : ∀ t : State, s.vm.Alike t.vm → H.size ≤ t.heap.size → (∀ q : Nat, q < H.size → t.heap[q]? = H[q]?) → XC (zexn k) s t) : W p l e R s mid args below meth c H locs 0 0 (vx_MQ below Qc XC args s 1 6 free) (F0 mid pc ls []) := by
  obtain ⟨hx0, hb, hml, hr, hlk, hown, hts, hN, hK, hA, hf0, hlo⟩ := C
  obtain ⟨hcl, ik, is, ic, tx, hstr, hw, d0, d3, hd⟩ := hs
  obtain ⟨w1, w2, w3, w4, w5, w6, w7, w8⟩ := hw
  rw [hcl] at hown
  obtain ⟨sa, hsa⟩ := hv.2 _ hstr
  have hat : ∀ w ∈ vx_atS RX4 ic (zexn k) zNm, w.before args s = true := vx_hat (B := zNg) (fun w hw => hts w (w3 w hw)) w4 (fun w hw => va_Nw.use (zNg_ot w hw) (hv.1 w hw))
  have hnm : ∀ n ∈ zNm, Bundle.fit n = true := by
    intro n hn
    simp only [List.mem_cons, List.not_mem_nil, or_false] at hn
    rcases hn with rfl | rfl <;> decide +kernel
  rcases hd with ⟨d4, d6, d9⟩ | ⟨d4, d7, d10⟩
  · exact vx_throwS hx0 hb hl hown w6 hnm (hts _ w1) (hts _ w2) hsa hat w5 ht.1 ht.2 hS (hsz.trans hml.symm) d0 d3 d4 d6 d9 (fun x hx => (htab x hx).elim) (by show 2 + 3 < R.frames; omega) (by show 0 + (13 * (2 + 1) + 43) ≤ R.locals; omega) (by omega) (by omega) hlk hx hf (by omega) (by omega)
  · exact vx_throwSW hx0 hb hl hown w6 hnm (hts _ w1) (hts _ w2) hsa hat w5 ht.1 ht.2 hS (hsz.trans hml.symm) d0 d3 d4 d7 d10 (fun x hx => (htab x hx).elim) (by show 2 + 3 < R.frames; omega) (by show 0 + (13 * (2 + 1) + 43) ≤ R.locals; omega) (by omega) (by omega) hlk hx hf (by omega) (by omega)
end ZTHR
abbrev zRx : Room := { frames := 8, cells := 1, slots := 6, locals := 260 }
abbrev zPreX (D : va_G) (A : Nat → Nat) (cI cQ : ClassId) (sz : Nat) (σ : zSt) (U : State) : Prop := zPre D A cI cQ sz σ U ∧ zTv U ∧ zTs (va_A (zW A cI cQ σ) sz) U U.heap
abbrev zPostX (D : va_G) (A : Nat → Nat) (cI cQ : ClassId) (sz : Nat) (σ : zSt) (k : Nat) (σ' : zSt) : String → State → State → Prop := fun E st t =>
  (E = zexn k ∧ va_P D zcls (zW A cI cQ σ') t.heap ∧ va_D (va_A (zW A cI cQ σ) sz) (zW A cI cQ σ') ∧ zoks σ') ∧ va_F (va_A (zW A cI cQ σ) sz) st t
/-- method m with the arguments as over σ throws k and leaves σ' -/
def zConX (l : Launch) (m : Nat) (as : List zVal) (σ : zSt) (k : Nat) (σ' : zSt) : Prop :=
  ∀ (D : va_G) (A : Nat → Nat) (cI cQ : ClassId) (sz : Nat), vx_Met l (zmY m) (zmW m) zRx (va_Pc (as.map (zv A)) (zPreX D A cI cQ sz σ)) (fun _ _ _ _ => False) (zPostX D A cI cQ sz σ k σ') 1 6 (va_A (zW A cI cQ σ) sz)
theorem zconX (l : Launch) (hl : l.stackTraces = false) {m : Nat} {as : List zVal} {σ : zSt} {k : Nat} {σ' : zSt} (h : zE m 0 (zpad (zmX m) (zlay as)) [] σ = some (.inr (k, σ'))) (hT : ∀ pc, zThP m pc (zcode m pc)) (hM : zMok m) (hh : zmH m ≤ 7) (hlen : (zlay as).length ≤ zmX m) (has : ∀ a ∈ as, zok a) (hσ : zoks σ) : zConX l m as σ k σ' := by
  intro D A cI cQ sz
  obtain ⟨n, hn⟩ := zE_iff.mp h
  refine vx_ofW (cc := zmB m) (maxL := zmX m) (ret := zmR m) hM.2.1 rfl ?_
  intro p e s mid args below meth c s₁ B hml htab hv
  obtain ⟨rfl, ⟨hsz, hP, hK, hD0, hN⟩, hTv, hTs⟩ := hv
  have hx := B.exec
  have hb := B.bytes
  have hr := B.returns
  have hts := atoms_spec (ws := zmW m) B.pre
  have hown : s.vm.findClass (zmY m).cls = some mid.cls := findClass_of_methodNamed B.named
  have hlocks := B.notSynchronized
  subst hsz
  have hD := hD0.self (sz := s.heap.size)
  have hS : va_S (va_A (zW A cI cQ σ) s.heap.size) s.heap s.heap [] := va_S.rf
  rw [lg_entry_eq]
  have hLH := zentry (A := A) hlen
  have hCx : zCx m p zRx s mid ((as.map (zv A)).toArray) meth c (va_A (zW A cI cQ σ) s.heap.size) D cI cQ :=
    ⟨hx, hb, hml, hr, hlocks, hown, fun w hw => hts w (List.mem_cons_of_mem _ hw), hN, hK, fun q hq => Or.inr hq, by show zmH m ≤ 8; omega, by show 32 * zmH m ≤ 260; omega⟩
  have hG := zwalk n m 0 _ [] σ _ hn p l e zRx s mid ((as.map (zv A)).toArray) below meth c A (va_A (zW A cI cQ σ) s.heap.size) D cI cQ (vx_MQ below (fun _ _ _ _ => False) (zPostX D A cI cQ s.heap.size σ k σ') ((as.map (zv A)).toArray) s 1 6 (va_A (zW A cI cQ σ) s.heap.size)) hCx
    (fun k hk m' as' σ1 v' σ2 h1 h2 h3 h4 h5 => zcon l k m' as' σ1 v' σ2 h1 h2 h3 h4 h5) ?_
  · exact hG s.heap [] _ ⟨hP, hD, hS⟩ hLH ⟨fun i w hw => has w (zlay_at as i w (zpad_at hw)), (fun v hv => by cases hv), hσ⟩
  · intro pc ls H locs L hc hok hls hat
    exact zthr_W hCx hl (hT pc L [] σ' k σ' hc) htab hTv hTs hat.2.2 hls ⟨by decide, by decide, by decide, by decide⟩ hat.2.2.2.2 (fun t hal h1 h2 => ⟨⟨rfl, hat.1.kept (fun k q hk => h2 _ (vx_lt hat.1 hk)), hat.2.1, hok⟩, Nat.le_trans hat.2.2.1 h1, fun q hq hA => (h2 q (Nat.lt_of_lt_of_le hq hat.2.2.1)).trans (hat.2.2.2.1 q hq hA)⟩)
