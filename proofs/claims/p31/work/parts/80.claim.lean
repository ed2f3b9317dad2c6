/-! ===== 80: the law from its entry, and the claim (the claim's rows: starting text) ===== -/
theorem zka_1 : Cond.classLink RL 45 RX4 ∈ zWL := zwl 58 (by decide +kernel) rfl
theorem zka_2 : Cond.instantiable RX4 4 ∈ zWL := zwl 59 (by decide +kernel) rfl
theorem zka_3 : Cond.methodLink RL 103 yX4_init ∈ zWL := zwl 60 (by decide +kernel) rfl
theorem zka_4 : Cond.instanceMethod yX4_init ∈ zWL := zwl 61 (by decide +kernel) rfl
theorem zka_5 : Cond.code yX4_init cX4_init 1 none ∈ zWL := zwl 62 (by decide +kernel) rfl
theorem zka_6 : Cond.initialized RX4 ∈ zWL := zwl 45 (by decide +kernel) rfl
abbrev zAA (s : State) : Nat → Prop := fun q => s.heap.size ≤ q
/-- the law, from its entry -/
theorem whole_start {p : Program} {e : Env} {s : State} {m : MethodId} {below : List Frame} {meth : Method} {c : Code} (l : Launch) (hflags : l.flags = flags0) {b L : Nat} {xs : Nat → Int32} (hL : L ≤ 260) (C0 : lw_At p s m meth c b L xs) : W p l e room_1 s m #[Value.ref b] below meth c s.heap [] 0 0 (lw_Z below #[Value.ref b] s) (entryFrame m ([Value.ref b] : List Value).toArray 15) := by
  obtain ⟨hx, hb, hr, hml, hown, hts, hXa, hbl, hlocks, hgv⟩ := id C0
  obtain ⟨D, cI, cQ, hK⟩ := zst_K hts
  have htz : ∀ w ∈ zWL, w.before #[Value.ref b] s = true := fun w hw => hts w (List.mem_filter.mp hw).1
  have hown' : s.vm.findClass RL = some m.cls := hown
  have S : CallFix p m c code 15 s #[Value.ref b] zWL RL := ⟨hx, hb, hml, hown', htz⟩
  have hN := zst_N hts
  have hO := zst_O hts
  have hA : ∀ q : Nat, s.heap.size ≤ q → zAA s q := fun _ h => h
  have hbA : ¬ zAA s b := fun q => Nat.lt_irrefl _ (Nat.lt_of_lt_of_le hbl q)
  have hS : va_S (zAA s) s.heap s.heap [] := va_S.rf
  have hP : va_P D zcls [] s.heap := fun k q h => by simp at h
  have hD : va_D (zAA s) [] := ⟨fun i j p q h => by simp at h, fun k q h => by simp at h⟩
  have hl := lv_entry ([.ref b]) (n := 15) (Nat.le_of_ble_eq_true rfl)
  rw [lg_entry_eq]
  generalize (lg_sl ([.ref b]) ++ List.replicate (15 - (lg_sl ([.ref b])).length) Slot.unset).toArray = ls at hl ⊢
  have hl : lv_has ls 15 [(0, .ref b)] := hl
  refine va_new (H0 := s.heap) (A := zAA s) (ci := 4) (fs := [.null, .null, .null, .null]) (C := RX4) (T := TX4) (N := 4) hx hb htz zin_5 tyX4 tyX4_ok hown' (htz _ zka_1) (htz _ zka_2) (htz _ zka_6) hK hP hD hS hA rfl zdef_4 (Nat.le_of_ble_eq_true rfl) (Nat.le_of_ble_eq_true rfl) (by decide +kernel : decode code 0 = .ok (.new 45, 3)) (fun xo H hP hD hS => ?_)
  refine lv_dup hx hb (by decide +kernel : decode code 3 = .ok (.dup, 1)) rfl ?_
  refine zk_call (ws := []) (h := xo) (rest := [.ref xo]) (A0 := zAA s) S (k_4 l D cI cQ xo) zka_3 zka_5 zka_4 zka_6 rfl ⟨by decide +kernel, by decide +kernel⟩ (by decide +kernel) ⟨Nat.le_of_ble_eq_true rfl, Nat.le_of_ble_eq_true rfl⟩ ⟨Nat.le_of_ble_eq_true rfl, Nat.le_of_ble_eq_true rfl⟩ hl.1 (Nat.le_of_ble_eq_true rfl) (by decide +kernel : decode code 4 = .ok (.invokespecial 103, 3)) hK hN hO hP hD hS hA (fun w1 H locs hp hP hD hS => ?_)
  obtain ⟨pl, sh, a, dr, st, fr, hi, ss, f, s0, s1, s2, s3, a0, a1, a2, a3, tx, bt, hf, rfl⟩ := hp
  refine lv_astore_n (lv' := [(1, .ref xo), (0, .ref b)]) hx hb (by decide +kernel : decode code 7 = .ok (.astore_n 1, 1)) rfl hl (by decide) rfl (fun ls hl => ?_)
  refine lv_iconst (v := 3) hx hb (by decide +kernel : decode code 8 = .ok (.iconst 3, 1)) (by decide) ?_
  refine zk_newa (N := 3) S hK hP hD hS hA (by decide) (by decide) (by decide) (Nat.le_of_ble_eq_true rfl) (Nat.le_of_ble_eq_true rfl) (by decide +kernel : decode code 9 = .ok (.newarray .int, 2)) (fun q H hP hD hS => ?_)
  refine lv_astore_n (lv' := [(2, .ref q), (1, .ref xo), (0, .ref b)]) hx hb (by decide +kernel : decode code 11 = .ok (.astore_n 2, 1)) rfl hl (by decide) rfl (fun ls hl => ?_)
  refine lv_bipush (v := 9) hx hb (by decide +kernel : decode code 12 = .ok (.bipush 9, 2)) (by decide) ?_
  refine zk_newa (N := 9) S hK hP hD hS hA (by decide) (by decide) (by decide) (Nat.le_of_ble_eq_true rfl) (Nat.le_of_ble_eq_true rfl) (by decide +kernel : decode code 14 = .ok (.newarray .int, 2)) (fun jo H hP hD hS => ?_)
  refine lv_astore_n (lv' := [(3, .ref jo), (2, .ref q), (1, .ref xo), (0, .ref b)]) hx hb (by decide +kernel : decode code 16 = .ok (.astore_n 3, 1)) rfl hl (by decide) rfl (fun ls hl => ?_)
  refine lv_bipush (v := 48) hx hb (by decide +kernel : decode code 17 = .ok (.bipush 48, 2)) (by decide) ?_
  refine zk_newa (N := 48) S hK hP hD hS hA (by decide) (by decide) (by decide) (Nat.le_of_ble_eq_true rfl) (Nat.le_of_ble_eq_true rfl) (by decide +kernel : decode code 19 = .ok (.newarray .int, 2)) (fun op H hP hD hS => ?_)
  refine lv_astore (lv' := [(4, .ref op), (3, .ref jo), (2, .ref q), (1, .ref xo), (0, .ref b)]) hx hb (by decide +kernel : decode code 21 = .ok (.astore 4, 2)) hl (by decide) rfl (fun ls hl => ?_)
  refine lv_bipush (v := 48) hx hb (by decide +kernel : decode code 23 = .ok (.bipush 48, 2)) (by decide) ?_
  refine zk_newa (N := 48) S hK hP hD hS hA (by decide) (by decide) (by decide) (Nat.le_of_ble_eq_true rfl) (Nat.le_of_ble_eq_true rfl) (by decide +kernel : decode code 25 = .ok (.newarray .int, 2)) (fun kp H hP hD hS => ?_)
  refine lv_astore (lv' := [(5, .ref kp), (4, .ref op), (3, .ref jo), (2, .ref q), (1, .ref xo), (0, .ref b)]) hx hb (by decide +kernel : decode code 27 = .ok (.astore 5, 2)) hl (by decide) rfl (fun ls hl => ?_)
  refine lv_bipush (v := 9) hx hb (by decide +kernel : decode code 29 = .ok (.bipush 9, 2)) (by decide) ?_
  refine zk_newa (N := 9) S hK hP hD hS hA (by decide) (by decide) (by decide) (Nat.le_of_ble_eq_true rfl) (Nat.le_of_ble_eq_true rfl) (by decide +kernel : decode code 31 = .ok (.newarray .int, 2)) (fun br H hP hD hS => ?_)
  refine lv_astore (lv' := [(6, .ref br), (5, .ref kp), (4, .ref op), (3, .ref jo), (2, .ref q), (1, .ref xo), (0, .ref b)]) hx hb (by decide +kernel : decode code 33 = .ok (.astore 6, 2)) hl (by decide) rfl (fun ls hl => ?_)
  have hP : va_P D zcls (zL0 cI cQ xo pl sh a dr st fr hi ss f s0 s1 s2 s3 a0 a1 a2 a3 tx bt q jo op kp br) H := by
    rw [zapp5] at hP
    exact hP
  have hD : va_D (zAA s) (zL0 cI cQ xo pl sh a dr st fr hi ss f s0 s1 s2 s3 a0 a1 a2 a3 tx bt q jo op kp br) := by
    rw [zapp5] at hD
    exact hD
  have hat : zAt (zA0 xo pl sh a dr st fr hi ss s0 s1 s2 s3 a0 a1 a2 a3 tx bt q jo op kp br b) (zAA s) D cI cQ s.heap H locs zs0 := ⟨zasm_P hf hP, zasm_D hD, hS⟩
  have h90 : zA0 xo pl sh a dr st fr hi ss s0 s1 s2 s3 a0 a1 a2 a3 tx bt q jo op kp br b 90 = b := rfl
  have r0 : zA0 xo pl sh a dr st fr hi ss s0 s1 s2 s3 a0 a1 a2 a3 tx bt q jo op kp br b 0 = xo := rfl
  have r9 : zA0 xo pl sh a dr st fr hi ss s0 s1 s2 s3 a0 a1 a2 a3 tx bt q jo op kp br b 9 = q := rfl
  have r65 : zA0 xo pl sh a dr st fr hi ss s0 s1 s2 s3 a0 a1 a2 a3 tx bt q jo op kp br b 65 = jo := rfl
  have r66 : zA0 xo pl sh a dr st fr hi ss s0 s1 s2 s3 a0 a1 a2 a3 tx bt q jo op kp br b 66 = op := rfl
  have r67 : zA0 xo pl sh a dr st fr hi ss s0 s1 s2 s3 a0 a1 a2 a3 tx bt q jo op kp br b 67 = kp := rfl
  have r68 : zA0 xo pl sh a dr st fr hi ss s0 s1 s2 s3 a0 a1 a2 a3 tx bt q jo op kp br b 68 = br := rfl
  generalize zA0 xo pl sh a dr st fr hi ss s0 s1 s2 s3 a0 a1 a2 a3 tx bt q jo op kp br b = A at hat h90 r0 r9 r65 r66 r67 r68
  have e10 := zmH_187
  have C : zCx 187 p room_1 s m #[Value.ref b] meth c (zAA s) D cI cQ := ⟨hx, hb, by rw [zmX_187]; exact hml, hr, hlocks, hown', htz, hN, hK, hA, by rw [e10]; exact Nat.le_of_ble_eq_true rfl, by rw [e10]; exact Nat.le_of_ble_eq_true rfl⟩
  obtain ⟨N, k, L1, e1, hI⟩ := inv_0 zs0_J1
  obtain ⟨n, hn⟩ := zE_iff.mp e1
  have cs : ∀ (i : Nat) (v : zVal), ([some (zR 90), some (zR 0), some (zR 9), some (zR 65), some (zR 66), some (zR 67), some (zR 68), none, none, none, none, none, none, none, none] : zLc)[i]? = some (some v) → zok v ∧ ls[i]? = some (.val (zv A v)) := by
    intro i v hi
    match i, hi with
    | 0, hi => cases hi; exact ⟨trivial, by show _ = some (Slot.val (.ref (A 90))); rw [h90]; exact lv_at hl 6 rfl⟩
    | 1, hi => cases hi; exact ⟨trivial, by show _ = some (Slot.val (.ref (A 0))); rw [r0]; exact lv_at hl 5 rfl⟩
    | 2, hi => cases hi; exact ⟨trivial, by show _ = some (Slot.val (.ref (A 9))); rw [r9]; exact lv_at hl 4 rfl⟩
    | 3, hi => cases hi; exact ⟨trivial, by show _ = some (Slot.val (.ref (A 65))); rw [r65]; exact lv_at hl 3 rfl⟩
    | 4, hi => cases hi; exact ⟨trivial, by show _ = some (Slot.val (.ref (A 66))); rw [r66]; exact lv_at hl 2 rfl⟩
    | 5, hi => cases hi; exact ⟨trivial, by show _ = some (Slot.val (.ref (A 67))); rw [r67]; exact lv_at hl 1 rfl⟩
    | 6, hi => cases hi; exact ⟨trivial, by show _ = some (Slot.val (.ref (A 68))); rw [r68]; exact lv_at hl 0 rfl⟩
    | 7, hi => cases hi
    | 8, hi => cases hi
    | 9, hi => cases hi
    | 10, hi => cases hi
    | 11, hi => cases hi
    | 12, hi => cases hi
    | 13, hi => cases hi
    | 14, hi => cases hi
    | i + 15, hi => simp at hi
  have hlh : zLH A (zmX 187) [some (zR 90), some (zR 0), some (zR 9), some (zR 65), some (zR 66), some (zR 67), some (zR 68), none, none, none, none, none, none, none, none] ls := by
    rw [zmX_187]
    exact ⟨rfl, hl.1, hl.2.1, fun i v hi => (cs i v hi).2⟩
  have hend : ∀ (pc : Nat) (ls : Array Slot) (H : Heap) (locs : List Loc) (σ' : zSt), decode cL_law pc = .ok (.ireturn, 1) → zAt A (zAA s) D cI cQ s.heap H locs σ' → W p l e room_1 s m #[Value.ref b] below meth c H locs room_1.cells room_1.slots (lw_Z below #[Value.ref b] s) (F0 m pc ls [.int 1]) := by
    intro pc ls H locs σ' hd hat2
    refine va_forget (fun q hq => hat2.2.2.2.2 q hq) ?_
    exact W.base (lw_ret (Drawn.sameBut.refl s.drawn lw_cs) hx hb hr hlocks hd)
  have he : zEnd 187 p l e room_1 s m #[Value.ref b] below meth c A (zAA s) D cI cQ (lw_Z below #[Value.ref b] s) (.inr ((k, L1), zs0)) :=
    ⟨by rcases inv_l hI with z | z | z | z <;> omega, fun pc ls H locs hk2 hlh2 hok2 hσ2 hat2 => law_go C hL hXa hbl hbA h90 hend N k L1 zs0 hI pc ls H locs hk2 hlh2 hok2 hσ2 hat2⟩
  have h := zwalk n 187 35 _ [] zs0 _ hn p l e room_1 s m #[Value.ref b] below meth c A (zAA s) D cI cQ (lw_Z below #[Value.ref b] s) C (fun k _ m' as σ1 v σ2 h1 h2 h3 h4 h5 => zcon l k m' as σ1 v σ2 h1 h2 h3 h4 h5) he H locs ls hat hlh ⟨fun i v hi => (cs i v hi).1, (fun w hw => by cases hw), zs0_ok⟩
  exact W.widen (k := room_1.cells) (n := room_1.slots) (Nat.le_of_ble_eq_true rfl) (Nat.le_of_ble_eq_true rfl) h
set_option maxHeartbeats 4000000 in
theorem lw_walk (l : Launch) (hflags : l.flags = flags0) (b : Addr) (xs : List Int32) : MetFree l x (headSpec (Jvm.Cond.code x code maxLocals ret :: tables_1) room_1) (lw_P b xs) (fun _ _ _ _ _ => True) lw_Q := by
  refine MetFree.of_bodyS (code := code) (maxLocals := maxLocals) (ret := ret) (by decide) ?_ ?_
  · intro args s m h hn
    obtain ⟨meth, c, h1, h2, h3, h4, h5, h6, -, -⟩ := Cond.code_spec hn (atoms_spec (ws := Jvm.Cond.code x code maxLocals ret :: tables_1) h _ List.mem_cons_self)
    exact ⟨meth, c, h1, h2, h3, h4, h5, h6⟩
  · intro p e s m args below meth c s₁ B hml0 hP _
    obtain ⟨rfl, hx, hbd, hgv⟩ := hP
    obtain ⟨scr, harrAt, hlist, hof, hsmall⟩ := hx
    obtain ⟨hcb, hkn, -, -⟩ := State.arrayAt?_spec harrAt
    have hown : s.vm.findClass R_law = some m.cls := findClass_of_methodNamed B.named
    have hts0 : ∀ c ∈ (Jvm.Cond.code x code maxLocals ret :: tables_1), c.before #[Value.ref b] s = true := atoms_spec (ws := Jvm.Cond.code x code maxLocals ret :: tables_1) B.pre
    have hts : ∀ w ∈ lw_tbl, w.before #[Value.ref b] s = true := k2_hts_sels lw_privs (fun w hw => hts0 w (List.mem_cons_of_mem _ hw)) lw_privs_ok
    have hml : c.maxLocals = 15 := B.maxLocals_eq (hts0 _ List.mem_cons_self)
    have X₀ : Stand p l e room_1 s m #[Value.ref b] below meth c s₁ [] 0 0 := Stand.of_body B
    have hh0 : s₁.heap = s.heap := by rw [B.state]; rfl
    have hsz : scr.slots.size = xs.length := by rw [← Array.length_toList, hlist, List.length_map]
    have hval : ∀ j : Nat, j < xs.length → scr.slots[j]? = some (.int (xs.getD j 0)) := fun j hj => by
      rw [← Array.getElem?_toList, hlist]
      simp [hj]
    have hbl : b < s.heap.size := (Array.getElem?_eq_some_iff.mp hcb).1
    have hX : va_X b xs.length (fun j => xs.getD j 0) s s.heap := ⟨scr, hcb, hof, hkn, hsz, hval⟩
    have K : W p l e room_1 s m #[Value.ref b] below meth c s₁.heap [] 0 0 (lw_Z below #[Value.ref b] s) (entryFrame m ([Value.ref b] : List Value).toArray 15) := by
      rw [hh0]
      exact whole_start l hflags hbd ⟨B.exec, B.bytes, B.returns, hml, hown, hts, hX, hbl, B.notSynchronized, hgv⟩
    obtain ⟨t, a1, o, b1, b2, b3⟩ := K s₁ rfl X₀
    exact ⟨t, o, a1, b1, b2, b3⟩
theorem lw_pre_spec {args : Array Value} {s : State} (h : (Jvm.Cond.and given_1 narrow_1).before args s = true) (hr : rest_1_c.before args s = true) : ∃ (b : Addr) (xs : List Int32), lw_P b xs args s := by
  have hs := flat_of_before _ h
  have hq := flat_of_before _ hr
  have hc : (Cond.count 1).before args s = true := hs _ (by decide +kernel)
  have harr : (Cond.arrayOf (.arg 0) .int).before args s = true := hs _ (by decide +kernel)
  have hle : (Cond.le (.length (.arg 0)) (.int 260)).before args s = true := hs _ (by decide +kernel)
  have hlen : (Cond.isInt (.length (.arg 0))).before args s = true := hq _ (by decide +kernel)
  have hall : (Cond.all (.arg 0) (.isInt (.elem (.arg 0) (.index 0)))).before args s = true := hq _ (by decide +kernel)
  obtain ⟨b, xs, hb, hx⟩ := State.ints_of_pre rfl harr hlen hall
  have hsm : xs.length < 2 ^ 31 := hx.choose_spec.2.2.2
  have hev : (Term.length (.arg 0)).eval args s none [] s = some (.int xs.length.toInt32) := hx.length_eval hb
  have hv := Cond.le_ints hev (show (Term.int 260).eval args s none [] s = some (.int 260) from rfl)
  have hd : xs.length.toInt32 ≤ 260 := by
    simpa [Cond.before, Cond.holds, hv] using hle
  have hN : xs.length ≤ 260 := (Int32.ofNat_le_ofNat hsm (by decide)).mp (show Int32.ofNat xs.length ≤ Int32.ofNat 260 from hd)
  exact ⟨b, xs, Cond.one_arg hc (show args[0]? = some (.ref b) from hb), hx, hN, h⟩
theorem lw_comes (l : Launch) (hflags : l.flags = flags0) : Comes l x (Jvm.Cond.code x code maxLocals ret :: tables_1) room_1 (fun tb e args s => Calls_1 tb e args s ∧ rest_1 tb e args s ∧ Pre_1 tb e args s)
    (fun _ _ args s o t => lw_Q args s o t) := by
  intro p e ha hc hk s m args below hf hfit hheap happ hpre
  obtain ⟨b, xs, hP⟩ := lw_pre_spec hpre.2.2 hpre.2.1
  obtain ⟨k, o, h1, h2, h3, hQ⟩ := lw_walk l hflags b xs p e ha hc hk s m args below hf ((Spec.applies_iff_loose hf).mp happ).1 hP trivial
  exact ⟨k, o, h1, h2, h3, hQ⟩
theorem lw_frame {s t : State} {o : Outcome} {args : Array Value} (h : State.butDraws s t lw_cs (fun t1 => Framed s o t1 [] 600130 7301079)) :
    State.butDraws s t [Jvm.Choice.named "NaN.bits"] (fun t1 => Framed s o t1 (fieldLocs frame_1_writes args s ++ arrayLocs frame_1_arrays args s ++ staticLocs frame_1_statics s) 600130 7301079) := h
theorem lw_limb (L : Cond) (hL : ∀ (args : Array Value) (s t : State), L.after args s (.returned (some (.int 1))) t = true) :
    ArmFor flags0 classFile x code maxLocals ret World_1 tables_1 room_1 Calls_1 rest_1 Pre_1
      (fun tb e a s o t => postC L tb e a s o t ∧ State.butDraws s t [Jvm.Choice.named "NaN.bits"] (fun t1 => Framed s o t1 (fieldLocs frame_1_writes a s ++ arrayLocs frame_1_arrays a s ++ staticLocs frame_1_statics s) 600130 7301079)) := by
  intro l hflags _ _ p e ha hc hk s m args below hf hfit hheap happ hpre
  obtain ⟨k, o, h1, h2, h3, rfl, hF⟩ := lw_comes l hflags p e ha hc hk s m args below hf hfit hheap happ hpre
  exact ⟨k, _, h1, h2, h3, hL args s _, lw_frame hF⟩
theorem i_vc : Claimed_1_1 ∧ Claimed_1_2 := ⟨lw_limb limb_1_1 (fun args s t => by simp [limb_1_1, Cond.after, Cond.holds, Cond.value]), lw_limb limb_1_2 (fun args s t => Cond.after_iff.mpr (by
  first | (rw [show limb_1_2 = Cond.eq .result (.int 1) from rfl, Cond.eq_ints (x := 1) (y := 1) rfl rfl]; simp; done) | (simp [limb_1_2, Cond.value, Term.eval]; done)))⟩
