/-! ===== 71: the script's cell; the law from stop to stop, on the machine ===== -/
abbrev zcR : Room := { frames := 0, cells := 0, slots := 0, locals := 0 }
def zcPre (b L : Nat) (xs : Nat → Int32) (sz : Nat) (U : State) : Prop := U.heap.size = sz ∧ b < sz ∧ va_X b L xs U U.heap
def zcPost : Array Value → State → Outcome → State → Prop := fun _ st oc t => (∃ v : Int32, oc = .returned (some (.int v))) ∧ t.heap = st.heap
theorem zcw_1 : Cond.methodLink RL 104 yL_cell ∈ zWL := zwl 513 (by decide +kernel) rfl
theorem zcw_2 : Cond.static yL_cell ∈ zWL := zwl 514 (by decide +kernel) rfl
theorem zcw_3 : Cond.code yL_cell cL_cell 2 (some .int) ∈ zWL := zwl 515 (by decide +kernel) rfl
theorem zcw_4 : Cond.constant RL 7 (1804603683 : Int32) ∈ zWL := zwl 516 (by decide +kernel) rfl
theorem zcw_5 : Cond.constant RL 8 (659060557 : Int32) ∈ zWL := zwl 517 (by decide +kernel) rfl
theorem zcw_6 : Cond.initialized RL ∈ zWL := zwl 44 (by decide +kernel) rfl
theorem zc_in {i : Int32} {L : Nat} (hL : L ≤ 260) (hi : ¬ i < 0) (c : ¬ Int32.ofNat L ≤ i) : vp_in i L := by
  have h1 : i.toInt < (Int32.ofNat L).toInt := Int32.lt_iff_toInt_lt.mp (Int32.not_le.mp c)
  have h2 : (Int32.ofNat L).toInt = (L : Int) := Int32.toInt_ofNat_of_lt (by omega)
  have h3 : ¬ i.toInt < (0 : Int32).toInt := fun q => hi (Int32.lt_iff_toInt_lt.mpr q)
  have h4 : (0 : Int32).toInt = 0 := rfl
  have h5 : i.toNatClampNeg = i.toInt.toNat := rfl
  unfold vp_in
  rintro (q | q)
  · exact hi q
  · omega
theorem cell_met (l : Launch) {b L : Nat} {xs : Nat → Int32} {i : Int32} (hL : L ≤ 260) (hi : ¬ i < 0) (sz : Nat) : Met l yL_cell (Cond.code yL_cell cL_cell 2 (some .int) :: zWL) zcR (va_Pc [.ref b, .int i] (zcPre b L xs sz)) zcPost 0 0 (fun q => sz ≤ q) := by
  refine Met.ofW (cc := cL_cell) (maxL := 2) (ret := some .int) (by decide +kernel) rfl ?_
  intro p e s mid args below meth c s₁ B hml hv
  obtain ⟨rfl, hsz, hbs, hX⟩ := hv
  have hx := B.exec
  have hb := B.bytes
  have hr := B.returns
  have hts0 := atoms_spec (ws := Cond.code yL_cell cL_cell 2 (some .int) :: zWL) B.pre
  have hts : ∀ w ∈ zWL, _ := fun w hw => hts0 w (List.mem_cons_of_mem _ hw)
  have hown : s.vm.findClass RL = some mid.cls := findClass_of_methodNamed B.named
  have hlk := B.notSynchronized
  subst hsz
  have hS : va_S (fun q => s.heap.size ≤ q) s.heap s.heap [] := va_S.rf
  have hbA : ¬ (fun q => s.heap.size ≤ q) b := fun q => Nat.lt_irrefl _ (Nat.lt_of_lt_of_le hbs q)
  have hl := lv_entry ([.ref b, .int i]) (n := 2) (Nat.le_of_ble_eq_true rfl)
  rw [lg_entry_eq]
  generalize (lg_sl ([.ref b, .int i]) ++ List.replicate (2 - (lg_sl ([.ref b, .int i])).length) Slot.unset).toArray = ls at hl ⊢
  have hl : lv_has ls 2 [(0, .ref b), (1, .int i)] := hl
  have fin : ∀ v : Int32, W p l e zcR s mid #[.ref b, .int i] below meth c s.heap [] 0 0 (MQ below zcPost #[.ref b, .int i] s 0 0 (fun q => s.heap.size ≤ q)) (F0 mid 21 ls [.int v]) := fun v =>
    W.iret hx hb hr (fun t ht hW => ⟨⟨v, rfl⟩, ht⟩) (fun q hq => by cases hq) (by decide +kernel : decode cL_cell 21 = .ok (.ireturn, 1)) hlk
  refine lv_iload_n hx hb (by decide +kernel : decode cL_cell 0 = .ok (.iload_n 1, 1)) rfl (lv_at hl 1 rfl) ?_
  refine lv_aload_n hx hb (by decide +kernel : decode cL_cell 1 = .ok (.aload_n 0, 1)) rfl (lv_at hl 0 rfl) ?_
  refine va_slen (A := fun q => s.heap.size ≤ q) (H0 := s.heap) hx hb hX hbs hbA hS (by decide +kernel : decode cL_cell 2 = .ok (.arraylength, 1)) ?_
  refine lv_icmp_ge (tgt := 12) hx hb (by decide +kernel : decode cL_cell 3 = .ok (.if_icmp .ge 9, 3)) (by decide) (fun _ => ?_) (fun c0 => ?_)
  · refine lv_ldc hx hb hown (hts _ zcw_4) (by decide +kernel : decode cL_cell 12 = .ok (.ldc 7, 2)) ?_
    refine lv_iload_n hx hb (by decide +kernel : decode cL_cell 14 = .ok (.iload_n 1, 1)) rfl (lv_at hl 1 rfl) ?_
    refine lv_iconst (v := 1) hx hb (by decide +kernel : decode cL_cell 15 = .ok (.iconst 1, 1)) (by decide) ?_
    refine lv_iadd hx hb (by decide +kernel : decode cL_cell 16 = .ok (.iadd, 1)) ?_
    refine lv_imul hx hb (by decide +kernel : decode cL_cell 17 = .ok (.imul, 1)) ?_
    refine lv_ldc hx hb hown (hts _ zcw_5) (by decide +kernel : decode cL_cell 18 = .ok (.ldc 8, 2)) ?_
    refine lv_iadd hx hb (by decide +kernel : decode cL_cell 20 = .ok (.iadd, 1)) ?_
    exact fin _
  · refine lv_aload_n hx hb (by decide +kernel : decode cL_cell 6 = .ok (.aload_n 0, 1)) rfl (lv_at hl 0 rfl) ?_
    refine lv_iload_n hx hb (by decide +kernel : decode cL_cell 7 = .ok (.iload_n 1, 1)) rfl (lv_at hl 1 rfl) ?_
    refine va_sld (A := fun q => s.heap.size ≤ q) (H0 := s.heap) hx hb hX hbs hbA hS (zc_in hL hi c0) (by decide +kernel : decode cL_cell 8 = .ok (.iaload, 1)) ?_
    refine lv_goto (tgt := 21) hx hb (by decide +kernel : decode cL_cell 9 = .ok (.goto 12, 3)) (by decide) ?_
    exact fin _
section LAWM
variable {p : Program} {l : Launch} {e : Env} {R : Room} {s : State} {mid : MethodId} {args : Array Value} {below : List Frame} {meth : Method} {c : Code} {H : Heap} {locs : List Loc} {cells slots : Nat} {Q : State → Prop}
variable {A : Nat → Nat} {A0 : Nat → Prop} {D : va_G} {cI cQ : ClassId} {σ : zSt} {b L : Nat} {xs : Nat → Int32}
theorem zcblind {as : List Value} {sz : Nat} : FrameBlind (va_Pc as (zcPre b L xs sz)) := by
  intro a U g mk q
  obtain ⟨q0, q1, q2, q3⟩ := q
  exact ⟨q0, q1, q2, va_X.moved (u := U) (U := U.calling g mk a) (Vm.Alike.refl U.vm) q3⟩
/-- the law asks its script -/
theorem cell_go {pc nL : Nat} {ls : Array Slot} {i : Int32} {cc : ByteArray} (S : CallFix p mid c cc nL s args zWL RL) (hL : L ≤ 260) (hi : ¬ i < 0) (hX : va_X b L xs s s.heap) (hbl : b < s.heap.size) (hbA : ¬ A0 b) (hA : ∀ q : Nat, s.heap.size ≤ q → A0 q) (hf : 1 ≤ R.frames) (hlo : 21 ≤ R.locals) (hsz : ls.size = nL) (hat : zAt A A0 D cI cQ s.heap H locs σ) (hdg : decode cc pc = .ok (.invokestatic 104, 3))
    (kk : ∀ (v : Int32) (locs1 : List Loc), zAt A A0 D cI cQ s.heap H locs1 σ → W p l e R s mid args below meth c H locs1 R.cells R.slots Q (F0 mid (pc + 3) ls [.int v])) : W p l e R s mid args below meth c H locs R.cells R.slots Q (F0 mid pc ls [.int i, .ref b]) := by
  have hgd : GoodIn zWL (Cond.code yL_cell cL_cell 2 (some .int) :: zWL) := fun w hw => by
    rcases List.mem_cons.mp hw with e | hw
    · rw [e]; exact zgood zcw_3
    · exact zgood hw
  have hpre : ∀ U : State, U.heap = H → s.WarmedH U.vm → va_Pc [.ref b, .int i] (zcPre b L xs H.size) [Value.ref b, .int i].toArray U := by
    intro U hU hW
    refine ⟨rfl, by rw [hU], Nat.lt_of_lt_of_le hbl hat.2.2.1, ?_⟩
    have h1 : va_X b L xs s H := hX.kept (hat.2.2.2.1 b hbl hbA)
    rw [hU]
    exact va_X.moved hW.alike h1
  have hr := va_runS (e := e) (below := below) (meth := meth) (H := H) (locs := locs) (cells := R.cells) (slots := R.slots) (As := [.ref b, .int i]) (rest := []) (g := F0 mid pc ls [.int i, .ref b]) S (cell_met l hL hi H.size (b := b) (xs := xs)) ⟨callB_of (ret := some .int) 2 S.2.2.2.2 hgd rfl rfl rfl (S.2.2.2.2 _ zcw_6) (S.2.2.2.2 _ zcw_1) ⟨by decide +kernel, by decide +kernel, by decide +kernel⟩ ⟨hf, by show 8 + (2 + 11) + 0 ≤ R.locals; omega⟩, S.2.2.2.2 _ zcw_2⟩ ⟨zcblind, hpre⟩ rfl rfl hsz rfl (lv_room (Nat.zero_le _)) hdg ⟨Nat.le_refl _, Nat.le_refl _⟩
  intro T hT X
  obtain ⟨v', st₀, t, T', Lo, h0, X', hLo, e1, e2, ⟨⟨v, hv⟩, hh⟩, st⟩ := hr T hT X
  cases hv
  have hH : T'.heap = H := by rw [e1, hh, h0]
  obtain ⟨t2, a1, b1⟩ := kk v (locs ++ Lo) ⟨hat.1, hat.2.1, hat.2.2.1, hat.2.2.2.1, fun q hq => by
    rcases List.mem_append.mp hq with h | h
    · exact hat.2.2.2.2 q h
    · exact hA _ (Nat.le_trans hat.2.2.1 (hLo q h))⟩ T' hH X'
  exact ⟨t2, st t2 a1, b1⟩
theorem zidx_130 : ∀ n, n < 3 → ∀ q, q < 4 → ¬ (((3 : Int32) + 4 * Int32.ofInt ((n : Nat) : Int)) + Int32.ofInt ((q : Nat) : Int) < 0) := by decide
theorem zidx_44 : ∀ n, n < 3 → ¬ (Int32.ofInt ((n : Nat) : Int) < 0) := by decide
theorem zidx_250 : ∀ n, n < 9 → ¬ ((15 : Int32) + 2 * Int32.ofInt ((n : Nat) : Int) < 0) := by decide
theorem zidx_263 : ∀ n, n < 9 → ¬ ((16 : Int32) + 2 * Int32.ofInt ((n : Nat) : Int) < 0) := by decide
theorem zmH_187 : zmH 187 = 10 := by decide +kernel
theorem zmX_187 : zmX 187 = 15 := by decide +kernel
theorem zmB_187 : zmB 187 = cL_law := rfl
/-- the law, from a stop on -/
theorem law_go (C : zCx 187 p R s mid args meth c A0 D cI cQ) (hL : L ≤ 260) (hX : va_X b L xs s s.heap) (hbl : b < s.heap.size) (hbA : ¬ A0 b) (h90 : A 90 = b)
    (hend : ∀ (pc : Nat) (ls : Array Slot) (H : Heap) (locs : List Loc) (σ' : zSt), decode cL_law pc = .ok (.ireturn, 1) → zAt A A0 D cI cQ s.heap H locs σ' → W p l e R s mid args below meth c H locs R.cells R.slots Q (F0 mid pc ls [.int 1])) :
    ∀ (N k : Nat) (L1 : zLc) (σ : zSt), Inv N k L1 σ → ∀ (pc : Nat) (ls : Array Slot) (H : Heap) (locs : List Loc), k = 1000 + pc → zLH A (zmX 187) L1 ls → (∀ (i : Nat) (v : zVal), L1[i]? = some (some v) → zok v) → zoks σ → zAt A A0 D cI cQ s.heap H locs σ → W p l e R s mid args below meth c H locs R.cells R.slots Q (F0 mid pc ls []) := by
  intro N
  induction N using Nat.strongRecOn with
  | _ N IH =>
    intro k L1 σ hI pc ls H locs hk hlh hok hσ hat
    obtain ⟨hx, hb, hml, hr, hlk, hown, hts, hN, hK, hA, hf, hlo⟩ := id C
    have hb' : c.code = cL_law := hb
    have hown' : s.vm.findClass RL = some mid.cls := hown
    have e10 := zmH_187
    have hf1 : 1 ≤ R.frames := by omega
    have hlo1 : 21 ≤ R.locals := by omega
    have S : CallFix p mid c cL_law (zmX 187) s args zWL RL := ⟨hx, hb', hml, hown', hts⟩
    -- behind the answer
    have nxt : ∀ (v : Int32) (locs1 : List Loc), zAt A A0 D cI cQ s.heap H locs1 σ → W p l e R s mid args below meth c H locs1 R.cells R.slots Q (F0 mid (nxk k) ls [.int v]) := by
      intro v locs1 hat1
      have ev : Int32.ofInt v.toInt = v := Int32.ofInt_toInt v
      have hG : ∀ out, zE 187 (nxk k) L1 [zI v.toInt] σ = some out → zEnd 187 p l e R s mid args below meth c A A0 D cI cQ Q out → W p l e R s mid args below meth c H locs1 R.cells R.slots Q (F0 mid (nxk k) ls [.int v]) := by
        intro out ho he
        obtain ⟨n, hn⟩ := zE_iff.mp ho
        have h := zwalk n 187 (nxk k) L1 [zI v.toInt] σ out hn p l e R s mid args below meth c A A0 D cI cQ Q C (fun k _ m' as σ1 v σ2 h1 h2 h3 h4 h5 => zcon l k m' as σ1 v σ2 h1 h2 h3 h4 h5) he H locs1 ls hat1 hlh ⟨hok, fun w hw => by
          rw [List.mem_singleton.mp hw]
          exact ⟨Int32.le_toInt _, Int32.toInt_lt _⟩, hσ⟩
        have e1 : [zI v.toInt].map (zv A) = [.int v] := by
          show [Value.int (Int32.ofInt v.toInt)] = _
          rw [ev]
        rw [← e1]
        exact h
      rcases inv_go hI v.toInt with ⟨σ', h1⟩ | ⟨N', k', L', σ', h1, h2, h3⟩
      · refine hG _ h1 (fun pc ls H locs hret _ _ _ hat2 => hend pc ls H locs σ' hret.2 hat2)
      · refine hG _ h2 ⟨?_, fun pc ls H locs hk2 hlh2 hok2 hσ2 hat2 => IH N' h1 k' L' σ' h3 pc ls H locs hk2 hlh2 hok2 hσ2 hat2⟩
        rcases inv_l h3 with q | q | q | q <;> omega
    have l0 : ∀ (i : Nat) (v : zVal), L1[i]? = some (some v) → ls[i]? = some (Slot.val (zv A v)) := fun i v q => hlh.2.2.2 i v q
    obtain ⟨S0, (⟨n, o8, o9, o10, o11, o12, rfl, rfl, hn, hJ, rfl⟩ | ⟨n, q, l8, l9, o11, o12, rfl, rfl, hn, hq, h4, hJ, hr, rfl⟩ | ⟨t, o8, o9, o10, o11, o12, o13, o14, rfl, rfl, ht, hJ, rfl⟩ | ⟨t, l8, o9, o10, o11, o12, o13, o14, rfl, rfl, ht, hJ, rfl⟩)⟩ := id hI
    · obtain rfl : pc = 44 := by omega
      have s0 := l0 0 _ rfl
      have s7 := l0 7 _ rfl
      have s0' : ls[0]? = some (.val (.ref b)) := by rw [← h90]; exact s0
      refine lv_aload_n hx hb' (by decide +kernel : decode cL_law 44 = .ok (.aload_n 0, 1)) rfl s0' ?_
      refine lv_iload hx hb' (by decide +kernel : decode cL_law 45 = .ok (.iload 7, 2)) s7 ?_
      exact cell_go S hL (zidx_44 n hn) hX hbl hbA hA hf1 hlo1 hlh.2.1 hat (by decide +kernel : decode cL_law 47 = .ok (.invokestatic 104, 3)) nxt
    · obtain rfl : pc = 130 := by omega
      have s0 := l0 0 _ rfl
      have s7 := l0 7 _ rfl
      have s10 := l0 10 _ rfl
      have s0' : ls[0]? = some (.val (.ref b)) := by rw [← h90]; exact s0
      refine lv_aload_n hx hb' (by decide +kernel : decode cL_law 130 = .ok (.aload_n 0, 1)) rfl s0' ?_
      refine lv_iconst (v := 3) hx hb' (by decide +kernel : decode cL_law 131 = .ok (.iconst 3, 1)) (by decide) ?_
      refine lv_iconst (v := 4) hx hb' (by decide +kernel : decode cL_law 132 = .ok (.iconst 4, 1)) (by decide) ?_
      refine lv_iload hx hb' (by decide +kernel : decode cL_law 133 = .ok (.iload 7, 2)) s7 ?_
      refine lv_imul hx hb' (by decide +kernel : decode cL_law 135 = .ok (.imul, 1)) ?_
      refine lv_iadd hx hb' (by decide +kernel : decode cL_law 136 = .ok (.iadd, 1)) ?_
      refine lv_iload hx hb' (by decide +kernel : decode cL_law 137 = .ok (.iload 10, 2)) s10 ?_
      refine lv_iadd hx hb' (by decide +kernel : decode cL_law 139 = .ok (.iadd, 1)) ?_
      exact cell_go S hL (zidx_130 n hn q (by omega)) hX hbl hbA hA hf1 hlo1 hlh.2.1 hat (by decide +kernel : decode cL_law 140 = .ok (.invokestatic 104, 3)) nxt
    · obtain rfl : pc = 250 := by omega
      have s0 := l0 0 _ rfl
      have s7 := l0 7 _ rfl
      have s0' : ls[0]? = some (.val (.ref b)) := by rw [← h90]; exact s0
      refine lv_aload_n hx hb' (by decide +kernel : decode cL_law 250 = .ok (.aload_n 0, 1)) rfl s0' ?_
      refine lv_bipush (v := 15) hx hb' (by decide +kernel : decode cL_law 251 = .ok (.bipush 15, 2)) (by decide) ?_
      refine lv_iconst (v := 2) hx hb' (by decide +kernel : decode cL_law 253 = .ok (.iconst 2, 1)) (by decide) ?_
      refine lv_iload hx hb' (by decide +kernel : decode cL_law 254 = .ok (.iload 7, 2)) s7 ?_
      refine lv_imul hx hb' (by decide +kernel : decode cL_law 256 = .ok (.imul, 1)) ?_
      refine lv_iadd hx hb' (by decide +kernel : decode cL_law 257 = .ok (.iadd, 1)) ?_
      exact cell_go S hL (zidx_250 t ht) hX hbl hbA hA hf1 hlo1 hlh.2.1 hat (by decide +kernel : decode cL_law 258 = .ok (.invokestatic 104, 3)) nxt
    · obtain rfl : pc = 263 := by omega
      have s0 := l0 0 _ rfl
      have s7 := l0 7 _ rfl
      have s0' : ls[0]? = some (.val (.ref b)) := by rw [← h90]; exact s0
      refine lv_aload_n hx hb' (by decide +kernel : decode cL_law 263 = .ok (.aload_n 0, 1)) rfl s0' ?_
      refine lv_bipush (v := 16) hx hb' (by decide +kernel : decode cL_law 264 = .ok (.bipush 16, 2)) (by decide) ?_
      refine lv_iconst (v := 2) hx hb' (by decide +kernel : decode cL_law 266 = .ok (.iconst 2, 1)) (by decide) ?_
      refine lv_iload hx hb' (by decide +kernel : decode cL_law 267 = .ok (.iload 7, 2)) s7 ?_
      refine lv_imul hx hb' (by decide +kernel : decode cL_law 269 = .ok (.imul, 1)) ?_
      refine lv_iadd hx hb' (by decide +kernel : decode cL_law 270 = .ok (.iadd, 1)) ?_
      exact cell_go S hL (zidx_263 t ht) hX hbl hbA hA hf1 hlo1 hlh.2.1 hat (by decide +kernel : decode cL_law 271 = .ok (.invokestatic 104, 3)) nxt
end LAWM
