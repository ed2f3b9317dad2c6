/-! ===== 80: the law from its entry, and the claim (the claim's rows: starting text) ===== -/
theorem zka_1 : Cond.classLink RL 8 RX4 ∈ zWL := zwl 123 (by decide +kernel) rfl
theorem zka_2 : Cond.instantiable RX4 4 ∈ zWL := zwl 124 (by decide +kernel) rfl
theorem zka_3 : Cond.methodLink RL 82 yX4_init ∈ zWL := zwl 125 (by decide +kernel) rfl
theorem zka_4 : Cond.instanceMethod yX4_init ∈ zWL := zwl 126 (by decide +kernel) rfl
theorem zka_5 : Cond.code yX4_init cX4_init 1 none ∈ zWL := zwl 127 (by decide +kernel) rfl
theorem zka_6 : Cond.classLink RL 83 RX5 ∈ zWL := zwl 886 (by decide +kernel) rfl
theorem zka_7 : Cond.instantiable RX5 12 ∈ zWL := zwl 887 (by decide +kernel) rfl
theorem zka_8 : Cond.methodLink RL 85 yX5_init ∈ zWL := zwl 888 (by decide +kernel) rfl
theorem zka_9 : Cond.instanceMethod yX5_init ∈ zWL := zwl 889 (by decide +kernel) rfl
theorem zka_10 : Cond.code yX5_init cX5_init 1 none ∈ zWL := zwl 890 (by decide +kernel) rfl
theorem zka_11 : Cond.arrayClass .long ∈ zWL := zwl 1256 (by decide +kernel) rfl
theorem zflags {l : Launch} (h : l.flags = flags0) : l.stackTraces = false := by
  unfold Launch.stackTraces
  rw [h]
  decide +kernel
/-- the law, from its entry -/
theorem whole_start {p : Program} {e : Env} {s : State} {m : MethodId} {below : List Frame} {meth : Method} {c : Code} (l : Launch) (hflags : l.flags = flags0) {b L : Nat} {xs : Nat → Int32} (hL : L ≤ 2048) (C0 : lw_At p s m meth c b L xs) : W p l e room_1 s m #[Value.ref b] below meth c s.heap [] 0 0 (lw_Z below #[Value.ref b] s) (entryFrame m ([Value.ref b] : List Value).toArray 9) := by
  obtain ⟨hx, hb, hr, hml, hown, hts, hXa, hbl, hlocks, hgv⟩ := id C0
  have hfl := zflags hflags
  obtain ⟨D, cI, cQ, cL, hKa⟩ := zst_K hts
  have hX : zLx p s m meth c b L xs D cI cQ cL := ⟨C0, hKa, zst_N hts, zst_Tv hts, zst_Nc hgv, zst_Ts hts hgv⟩
  have hd0 := Drawn.sameBut.refl s.drawn lw_cs
  refine W.base ?_
  have S := hX.S s.drawn
  have hx := S.1
  have hb := S.2.1
  have hown := S.2.2.2.1
  have htz := S.2.2.2.2
  have hK3 := hX.K s.drawn
  have hK : va_K D zcls (ztys cI cQ) (s.setDrawn s.drawn) := hK3.sub [0, 1] rfl
  have hN := hX.N s.drawn
  have hO : va_AO RX3 (s.setDrawn s.drawn) := va_AO.moved (u := s) (U := s.setDrawn s.drawn) (Vm.Alike.refl s.vm) (zst_O hts)
  have hA : ∀ q : Nat, s.heap.size ≤ q → zAA s q := fun _ h => h
  have hS : va_S (zAA s) s.heap s.heap [] := va_S.rf
  have hP : va_P D zcls [] s.heap := fun k q h => by simp at h
  have hD : va_D (zAA s) [] := ⟨fun i j p q h => by simp at h, fun k q h => by simp at h⟩
  have hl := lv_entry ([.ref b]) (n := 9) (Nat.le_of_ble_eq_true rfl)
  rw [lg_entry_eq]
  generalize (lg_sl ([.ref b]) ++ List.replicate (9 - (lg_sl ([.ref b])).length) Slot.unset).toArray = ls at hl ⊢
  have hl : lv_has ls 9 [(0, .ref b)] := hl
  refine va_new (s := s.setDrawn s.drawn) (H0 := s.heap) (A := zAA s) (ci := 4) (fs := [.null, .null, .null, .null]) (C := RX4) (T := TX4) (N := 4) hx hb htz zin_5 tyX4 tyX4_ok hown (htz _ zka_1) (htz _ zka_2) (htz _ zqw_9) hK hP hD hS hA rfl zdef_4 (Nat.le_of_ble_eq_true rfl) (Nat.le_of_ble_eq_true rfl) (by decide +kernel : decode code 0 = .ok (.new 8, 3)) (fun xo H hP hD hS => ?_)
  refine lv_dup hx hb (by decide +kernel : decode code 3 = .ok (.dup, 1)) rfl ?_
  refine zk_call (ws := []) (h := xo) (rest := [.ref xo]) (A0 := zAA s) S (k_4 l D cI cQ xo) zka_3 zka_5 zka_4 zqw_9 rfl ⟨by decide +kernel, by decide +kernel⟩ (by decide +kernel) ⟨Nat.le_of_ble_eq_true rfl, Nat.le_of_ble_eq_true rfl⟩ ⟨Nat.le_of_ble_eq_true rfl, Nat.le_of_ble_eq_true rfl⟩ hl.1 (Nat.le_of_ble_eq_true rfl) (by decide +kernel : decode code 4 = .ok (.invokespecial 82, 3)) hK hN hO hP hD hS hA (fun w1 H locs hp hP hD hS => ?_)
  obtain ⟨pl, sh, a, dr, st, fr, hi, ss, f, s0, s1, s2, s3, a0, a1, a2, a3, tx, by', hf, rfl⟩ := hp
  refine lv_astore_n (lv' := [(1, .ref xo), (0, .ref b)]) hx hb (by decide +kernel : decode code 7 = .ok (.astore_n 1, 1)) rfl hl (by decide) rfl (fun ls hl => ?_)
  refine va_new (s := s.setDrawn s.drawn) (H0 := s.heap) (A := zAA s) (ci := 5) (fs := [.int 0, .null, .null, .null, .int 0, .null, .int 0, .int 0, .int 0, .int 0, .int 0, .int 0]) (C := RX5) (T := TX5) (N := 12) hx hb htz zin_6 tyX5 tyX5_ok hown (htz _ zka_6) (htz _ zka_7) (htz _ zqw_10) hK hP hD hS hA rfl zdef_5 (Nat.le_of_ble_eq_true rfl) (Nat.le_of_ble_eq_true rfl) (by decide +kernel : decode code 8 = .ok (.new 83, 3)) (fun mo H hP hD hS => ?_)
  refine lv_dup hx hb (by decide +kernel : decode code 11 = .ok (.dup, 1)) rfl ?_
  refine zk_call (h := mo) (rest := [.ref mo]) (A0 := zAA s) S (k_5 l D cI cQ mo) zka_8 zka_10 zka_9 zqw_10 rfl ⟨by decide +kernel, by decide +kernel⟩ (by decide +kernel) ⟨Nat.le_of_ble_eq_true rfl, Nat.le_of_ble_eq_true rfl⟩ ⟨Nat.le_of_ble_eq_true rfl, Nat.le_of_ble_eq_true rfl⟩ hl.1 (Nat.le_of_ble_eq_true rfl) (by decide +kernel : decode code 12 = .ok (.invokespecial 85, 3)) hK hN hO hP hD hS hA (fun w1 H locs hp hP hD hS => ?_)
  obtain ⟨q, k, u, t, rfl⟩ := hp
  refine lv_astore_n (lv' := [(2, .ref mo), (1, .ref xo), (0, .ref b)]) hx hb (by decide +kernel : decode code 15 = .ok (.astore_n 2, 1)) rfl hl (by decide) rfl (fun ls hl => ?_)
  refine lv_iconst (v := 1) hx hb (by decide +kernel : decode code 16 = .ok (.iconst 1, 1)) (by decide) ?_
  refine va_newa (s := s.setDrawn s.drawn) (H0 := s.heap) (A := zAA s) (atype := .long) (ty := .long) (N' := 1) (a0 := (1, .inr (.inl (fun _ => 0)))) hx hb (htz _ zka_11) rfl hK3 hP hD hS hA (fun _ => rfl) (by decide) (by decide) (by decide) (Nat.le_of_ble_eq_true rfl) (Nat.le_of_ble_eq_true rfl) (by decide +kernel : decode code 17 = .ok (.newarray .long, 2)) (fun o cA H hK4 hP hD hS => ?_)
  have e1 : (s.setDrawn s.drawn).vm.findClass ("[" ++ FieldType.long.toString) = some cL := (hK3.2 2 (cL, .long) rfl).2
  have e2 : (s.setDrawn s.drawn).vm.findClass ("[" ++ FieldType.long.toString) = some cA := (hK4.2 3 (cA, .long) rfl).2
  obtain rfl : cL = cA := Option.some.inj (e1.symm.trans e2)
  refine lv_astore_n (lv' := [(3, .ref o), (2, .ref mo), (1, .ref xo), (0, .ref b)]) hx hb (by decide +kernel : decode code 19 = .ok (.astore_n 3, 1)) rfl hl (by decide) rfl (fun ls hl => ?_)
  refine lv_iconst (v := nI 0) hx hb (by decide +kernel : decode code 20 = .ok (.iconst 0, 1)) (by decide) ?_
  refine lv_istore (lv' := [(4, .int (nI 0)), (3, .ref o), (2, .ref mo), (1, .ref xo), (0, .ref b)]) hx hb (by decide +kernel : decode code 21 = .ok (.istore 4, 2)) hl (by decide) rfl (fun ls hl => ?_)
  have hP : va_P D zcls (zL0 cI cQ cL xo pl sh a dr st fr hi ss f s0 s1 s2 s3 a0 a1 a2 a3 tx by' mo q k u t o) H := hP
  have hD : va_D (zAA s) (zL0 cI cQ cL xo pl sh a dr st fr hi ss f s0 s1 s2 s3 a0 a1 a2 a3 tx by' mo q k u t o) := hD
  exact law_loop hX hfl hL (L + 1) 0 (by omega) (by omega) s.drawn zs0 (fun _ => 0) H _ ls _ _ ⟨hd0, zs0_ok, zasm_P hf hP, zasm_D hD, hS⟩ (zs0_inv.up (by omega)) (lv_sub hl [4, 3, 2, 1, 0] rfl) (Nat.le_of_ble_eq_true rfl) (Nat.le_of_ble_eq_true rfl)
set_option maxHeartbeats 4000000 in
theorem lw_walk (l : Launch) (hflags : l.flags = flags0) (b : Addr) (xs : List Int32) : MetFree l x (headSpec (Jvm.Cond.code x code maxLocals ret :: tables_1) room_1) (lw_P b xs) (fun _ _ _ _ _ => True) lw_Q := by
  refine MetFree.of_bodyS (code := code) (maxLocals := maxLocals) (ret := ret) (by decide) ?_ ?_
  · intro args s m h hn
    obtain ⟨meth, c, h1, h2, h3, h4, h5, h6, -, -⟩ := Cond.code_spec hn (atoms_spec (ws := Jvm.Cond.code x code maxLocals ret :: tables_1) h _ List.mem_cons_self)
    exact ⟨meth, c, h1, h2, h3, h4, h5, h6⟩
  · intro p e s m args below meth c s₁ B hml0 hP _
    obtain ⟨rfl, hx, hbd, hgv⟩ := hP
    obtain ⟨scr, harrAt, hlist, hof, hsmall⟩ := hx
    obtain ⟨hcb, hkn, -, -⟩ := State.arrayAt?_spec harrAt
    have hown : s.vm.findClass R_law = some m.cls := findClass_of_methodNamed B.named
    have hts0 : ∀ c ∈ (Jvm.Cond.code x code maxLocals ret :: tables_1), c.before #[Value.ref b] s = true := atoms_spec (ws := Jvm.Cond.code x code maxLocals ret :: tables_1) B.pre
    have hts : ∀ w ∈ lw_tbl, w.before #[Value.ref b] s = true := k2_hts_sels lw_privs (fun w hw => hts0 w (List.mem_cons_of_mem _ hw)) lw_privs_ok
    have hml : c.maxLocals = 9 := B.maxLocals_eq (hts0 _ List.mem_cons_self)
    have X₀ : Stand p l e room_1 s m #[Value.ref b] below meth c s₁ [] 0 0 := Stand.of_body B
    have hh0 : s₁.heap = s.heap := by rw [B.state]; rfl
    have hsz : scr.slots.size = xs.length := by rw [← Array.length_toList, hlist, List.length_map]
    have hval : ∀ j : Nat, j < xs.length → scr.slots[j]? = some (.int (xs.getD j 0)) := fun j hj => by
      rw [← Array.getElem?_toList, hlist]
      simp [hj]
    have hbl : b < s.heap.size := (Array.getElem?_eq_some_iff.mp hcb).1
    have hX : va_X b xs.length (fun j => xs.getD j 0) s s.heap := ⟨scr, hcb, hof, hkn, hsz, hval⟩
    have K : W p l e room_1 s m #[Value.ref b] below meth c s₁.heap [] 0 0 (lw_Z below #[Value.ref b] s) (entryFrame m ([Value.ref b] : List Value).toArray 9) := by
      rw [hh0]
      exact whole_start l hflags hbd ⟨B.exec, B.bytes, B.returns, hml, hown, hts, hX, hbl, B.notSynchronized, hgv⟩
    obtain ⟨t, a1, o, b1, b2, b3⟩ := K s₁ rfl X₀
    exact ⟨t, o, a1, b1, b2, b3⟩
theorem lw_pre_spec {args : Array Value} {s : State} (h : (Jvm.Cond.and given_1 narrow_1).before args s = true) (hr : rest_1_c.before args s = true) : ∃ (b : Addr) (xs : List Int32), lw_P b xs args s := by
  have hs := flat_of_before _ h
  have hq := flat_of_before _ hr
  have hc : (Cond.count 1).before args s = true := hs _ (by decide +kernel)
  have harr : (Cond.arrayOf (.arg 0) .int).before args s = true := hs _ (by decide +kernel)
  have hle : (Cond.le (.length (.arg 0)) (.int 2048)).before args s = true := hs _ (by decide +kernel)
  have hlen : (Cond.isInt (.length (.arg 0))).before args s = true := hq _ (by decide +kernel)
  have hall : (Cond.all (.arg 0) (.isInt (.elem (.arg 0) (.index 0)))).before args s = true := hq _ (by decide +kernel)
  obtain ⟨b, xs, hb, hx⟩ := State.ints_of_pre rfl harr hlen hall
  have hsm : xs.length < 2 ^ 31 := hx.choose_spec.2.2.2
  have hev : (Term.length (.arg 0)).eval args s none [] s = some (.int xs.length.toInt32) := hx.length_eval hb
  have hv := Cond.le_ints hev (show (Term.int 2048).eval args s none [] s = some (.int 2048) from rfl)
  have hd : xs.length.toInt32 ≤ 2048 := by
    simpa [Cond.before, Cond.holds, hv] using hle
  have hN : xs.length ≤ 2048 := (Int32.ofNat_le_ofNat hsm (by decide)).mp (show Int32.ofNat xs.length ≤ Int32.ofNat 2048 from hd)
  exact ⟨b, xs, Cond.one_arg hc (show args[0]? = some (.ref b) from hb), hx, hN, h⟩
theorem lw_comes (l : Launch) (hflags : l.flags = flags0) : Comes l x (Jvm.Cond.code x code maxLocals ret :: tables_1) room_1 (fun tb e args s => Calls_1 tb e args s ∧ rest_1 tb e args s ∧ Pre_1 tb e args s)
    (fun _ _ args s o t => lw_Q args s o t) := by
  intro p e ha hc hk s m args below hf hfit hheap happ hpre
  obtain ⟨b, xs, hP⟩ := lw_pre_spec hpre.2.2 hpre.2.1
  obtain ⟨k, o, h1, h2, h3, hQ⟩ := lw_walk l hflags b xs p e ha hc hk s m args below hf ((Spec.applies_iff_loose hf).mp happ).1 hP trivial
  exact ⟨k, o, h1, h2, h3, hQ⟩
theorem lw_frame {s t : State} {o : Outcome} {args : Array Value} (h : State.butDraws s t lw_cs (fun t1 => Framed s o t1 [] 601024 7293034)) :
    State.butDraws s t [Jvm.Choice.named "NaN.bits"] (fun t1 => Framed s o t1 (fieldLocs frame_1_writes args s ++ arrayLocs frame_1_arrays args s ++ staticLocs frame_1_statics s) 601024 7293034) := h
theorem lw_limb (L : Cond) (hL : ∀ (args : Array Value) (s t : State), L.after args s (.returned (some (.int 1))) t = true) :
    ArmFor flags0 classFile x code maxLocals ret World_1 tables_1 room_1 Calls_1 rest_1 Pre_1
      (fun tb e a s o t => postC L tb e a s o t ∧ State.butDraws s t [Jvm.Choice.named "NaN.bits"] (fun t1 => Framed s o t1 (fieldLocs frame_1_writes a s ++ arrayLocs frame_1_arrays a s ++ staticLocs frame_1_statics s) 601024 7293034)) := by
  intro l hflags _ _ p e ha hc hk s m args below hf hfit hheap happ hpre
  obtain ⟨k, o, h1, h2, h3, rfl, hF⟩ := lw_comes l hflags p e ha hc hk s m args below hf hfit hheap happ hpre
  exact ⟨k, _, h1, h2, h3, hL args s _, lw_frame hF⟩
theorem i_vc : Claimed_1_1 ∧ Claimed_1_2 := ⟨lw_limb limb_1_1 (fun args s t => by simp [limb_1_1, Cond.after, Cond.holds, Cond.value]), lw_limb limb_1_2 (fun args s t => Cond.after_iff.mpr (by
  first | (rw [show limb_1_2 = Cond.eq .result (.int 1) from rfl, Cond.eq_ints (x := 1) (y := 1) rfl rfl]; simp; done) | (simp [limb_1_2, Cond.value, Term.eval]; done)))⟩
