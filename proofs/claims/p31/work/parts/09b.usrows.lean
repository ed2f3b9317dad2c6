/-! ===== 09b: usage as one step is the machine's ===== -/
theorem znan_of {b : UInt64} (h : vf_n64 b) : FP.Core.decode FP.Core.b64 b.toNat ≠ .nan := by
  intro q
  have h0 : ¬ isNaN64 b = true := fun z => isNaN64_not.mp z h
  have h1 : ¬ 0x7ff0000000000000 < b.toNat &&& 0x7fffffffffffffff := fun z => h0 (isNaN64_iff.mpr z)
  have h2 : b.toNat &&& 0x7fffffffffffffff = b.toNat % 2 ^ 63 := Nat.and_two_pow_sub_one_eq_mod b.toNat 63
  rw [h2] at h1
  unfold FP.Core.decode at q
  by_cases e1 : FP.Core.fieldE FP.Core.b64 b.toNat = FP.Core.b64.exps - 1
  · rw [if_pos e1] at q
    by_cases e2 : FP.Core.fieldT FP.Core.b64 b.toNat = 0
    · rw [if_pos e2] at q; cases q
    · have e3 : b.toNat / 2 ^ 52 % 2 ^ 11 = 2 ^ 11 - 1 := e1
      have e4 : ¬ b.toNat % 2 ^ 52 = 0 := e2
      omega
  · rw [if_neg e1] at q
    split at q <;> cases q
theorem zcmp_rf (a : Int) : compare a a = .eq := by simp [compare, compareOfLessAndEq]
theorem zord_rf {d : FP.Core.Datum} (h : d ≠ .nan) : FP.Core.order d d = some .eq := by
  cases d with
  | nan => exact absurd rfl h
  | inf s => show some (compare _ _) = _; rw [zcmp_rf]
  | fin s c q => show some (compare _ _) = _; rw [zcmp_rf]
theorem zdcmp_self {q : UInt64} (h : vf_n64 q) : Op.cmpValue (FP.dcmp q q) CmpOp.l = 0 := by
  show Op.cmpValue (FP.Core.order (FP.Core.decode FP.Core.b64 q.toNat) (FP.Core.decode FP.Core.b64 q.toNat)) CmpOp.l = 0
  rw [zord_rf (znan_of h)]
  rfl
section ZUS
variable {p : Program} {l : Launch} {e : Env} {R : Room} {s : State} {mid : MethodId} {args : Array Value} {below : List Frame} {meth : Method} {c : Code} {H : Heap} {locs : List Loc} {Q : State → Prop}
theorem zdcall_go {A : Nat → Nat} {A0 : Nat → Prop} {D : va_G} {cI cQ : ClassId} {σ : zSt} {r : UInt64} {pc : Nat} {ls : Array Slot} {st0 rest : List Value} {av : Array Value}
    (hr : va_Run p l e R s mid args below meth c H locs R.cells R.slots 0 0 (F0 mid pc ls st0) rest (zDPost D A cI cQ H.size σ r av) (va_A (zW A cI cQ σ) H.size)) (hat : zAt A A0 D cI cQ s.heap H locs σ) (hA : ∀ q : Nat, s.heap.size ≤ q → A0 q)
    (kk : ∀ (H1 : Heap) (locs1 : List Loc), zAt A A0 D cI cQ s.heap H1 locs1 σ → W p l e R s mid args below meth c H1 locs1 R.cells R.slots Q (F0 mid (pc + 3) ls (.double r :: rest))) : W p l e R s mid args below meth c H locs R.cells R.slots Q (F0 mid pc ls st0) := by
  have hF := zfree hat hA
  obtain ⟨hP0, hD0, hS⟩ := hat
  intro T hT X
  obtain ⟨v', st₀, t, T', L, h0, X', hL, e1, e2, ⟨⟨hv, hP, hD⟩, hz, hk⟩, st⟩ := hr T hT X
  cases hv
  rw [h0] at hz hk
  obtain ⟨t2, a1, b1⟩ := kk T'.heap (locs ++ L) ⟨by rw [e1]; exact hP, hD.weaken (fun _ _ _ h => hF _ h),
    ⟨Nat.le_trans hS.1 (by rw [e1]; exact hz), fun q h1 h2 => by rw [e1, hk q (Nat.lt_of_lt_of_le h1 hS.1) (fun z => h2 (hF q z))]; exact hS.2.1 q h1 h2, fun q hq => by
      rcases List.mem_append.mp hq with h | h
      · exact hS.2.2 q h
      · exact hF _ (hL q h)⟩⟩ T' rfl X'
  exact ⟨t2, st t2 a1, b1⟩
theorem zus_go {A : Nat → Nat} {A0 : Nat → Prop} {D : va_G} {cI cQ : ClassId} {σ : zSt} {r : UInt64} {pc nL idx : Nat} {ls : Array Slot} {cc : ByteArray} {own : String} (S : CallFix p mid c cc nL s args zWL own) (hu : ∀ l : Launch, zDCon l σ r) (hw : Cond.methodLink own idx yX4_usage ∈ zWL) (hin : Cond.instanceMethod yX4_usage ∈ zWL) (hse : Cond.selects RX4 yX4_usage yX4_usage ∈ zWL) (hcd : Cond.code yX4_usage cX4_usage 2 (some .double) ∈ zWL) (hini : Cond.initialized RX4 ∈ zWL) (hf : 6 ≤ R.frames) (hlo : 200 ≤ R.locals) (hsz : ls.size = nL) (hdg : decode cc pc = .ok (.invokevirtual idx, 3)) (hK : va_K D zcls (ztys cI cQ) s) (hN : zNst s) (hat : zAt A A0 D cI cQ s.heap H locs σ) (hA : ∀ q : Nat, s.heap.size ≤ q → A0 q)
    (kk : ∀ (H1 : Heap) (locs1 : List Loc), zAt A A0 D cI cQ s.heap H1 locs1 σ → W p l e R s mid args below meth c H1 locs1 R.cells R.slots Q (F0 mid (pc + 3) ls [.double r])) : W p l e R s mid args below meth c H locs R.cells R.slots Q (F0 mid pc ls [.ref (A 0)]) := by
  have hgd : GoodIn zWL (Cond.code yX4_usage cX4_usage 2 (some .double) :: zWL) := fun w hw => by
    rcases List.mem_cons.mp hw with e | hw
    · rw [e]; exact zgood hcd
    · exact zgood hw
  have hk : zcl 0 = 5 := rfl
  exact zdcall_go (rest := []) (va_runV (C := RX4) (b := A 0) (As := []) (rest := []) S (hu l D A cI cQ H.size) ⟨callB_of (ret := some .double) 0 S.2.2.2.2 hgd rfl rfl rfl (S.2.2.2.2 _ hini) (S.2.2.2.2 _ hw) ⟨by decide +kernel, by decide +kernel, by decide +kernel⟩ ⟨hf, by show 8 + (2 + 11) + 160 ≤ R.locals; omega⟩, S.2.2.2.2 _ hin, S.2.2.2.2 _ hse⟩ ⟨zblind, va_recv hK hat.1 (ci := 4) (q0 := 0) (show zcls[4]? = some (RX4, TX4, 4) from rfl) (by rw [zW_get (by omega), zent_obj (by decide), hk]), zpre hat hK hN [.ref (A 0)]⟩ rfl rfl hsz rfl (lv_room (Nat.zero_le _)) hdg ⟨Nat.le_refl _, Nat.le_refl _⟩) hat hA kk
end ZUS
theorem zS_us0 {idx : Nat} (hw : Cond.methodLink RL idx yX4_usage ∈ zWL) (hin : Cond.instanceMethod yX4_usage ∈ zWL) (hse : Cond.selects RX4 yX4_usage yX4_usage ∈ zWL) (hcd : Cond.code yX4_usage cX4_usage 2 (some .double) ∈ zWL) (hini : Cond.initialized RX4 ∈ zWL) (hdg : decode (zmB 185) 693 = .ok (.invokevirtual idx, 3) := by decide +kernel) : zSnd 185 692 (o_us0 701) := by
  intro p l e R s mid args below meth c A A0 D cI cQ Q C L st σ r h
  obtain ⟨hx, hb, hml, hr, hlk, hown, hts, hN, hK, hA, hf, hlo⟩ := C
  have S : CallFix p mid c (zmB 185) (zmX 185) s args zWL RL := ⟨hx, hb, hml, hown, hts⟩
  have e6 : zmH 185 = 7 := by decide +kernel
  simp only [o_us0] at h
  split at h
  · rename_i h0
    split at h
    · rename_i hu
      cases h
      intro G H locs ls hat hlh hwf
      show W p l e R s mid args below meth c H locs R.cells R.slots Q (F0 mid 692 ls [])
      have l0 : ls[0]? = some (.val (.ref (A 0))) := hlh.2.2.2 0 _ (zat0_at h0)
      refine lv_aload_n hx hb (by decide +kernel : decode (zmB 185) 692 = .ok (.aload_n 0, 1)) rfl l0 ?_
      refine zus_go S (hu hwf.2.2) hw hin hse hcd hini (by omega) (by omega) hlh.2.1 hdg hK hN hat hA (fun H1 locs1 hat1 => ?_)
      refine lv_dconst0 hx hb (by decide +kernel : decode (zmB 185) 696 = .ok (.dconst 0, 1)) ?_
      refine lv_dcmp hx hb (by decide +kernel : decode (zmB 185) 697 = .ok (.dcmp .l, 1)) ?_
      rw [zdcmp_self (show vf_n64 FP.dconst0 from (by decide +kernel : FP.dconst0 &&& 0x7fffffffffffffff ≤ 0x7ff0000000000000))]
      refine lv_if_ne (tgt := 715) hx hb (by decide +kernel : decode (zmB 185) 698 = .ok (.ifCond .ne 17, 3)) (by decide) (fun q => absurd rfl q) (fun _ => ?_)
      exact G H1 locs1 ls hat1 hlh ⟨hwf.1, (fun v hv => by cases hv), hwf.2.2⟩
    · cases h
  · cases h
theorem zS_us1 {idx : Nat} (hw : Cond.methodLink RL idx yX4_usage ∈ zWL) (hin : Cond.instanceMethod yX4_usage ∈ zWL) (hse : Cond.selects RX4 yX4_usage yX4_usage ∈ zWL) (hcd : Cond.code yX4_usage cX4_usage 2 (some .double) ∈ zWL) (hini : Cond.initialized RX4 ∈ zWL) (hdg : decode (zmB 185) 779 = .ok (.invokevirtual idx, 3) := by decide +kernel) : zSnd 185 778 (o_us1 804) := by
  intro p l e R s mid args below meth c A A0 D cI cQ Q C L st σ r h
  obtain ⟨hx, hb, hml, hr, hlk, hown, hts, hN, hK, hA, hf, hlo⟩ := C
  have S : CallFix p mid c (zmB 185) (zmX 185) s args zWL RL := ⟨hx, hb, hml, hown, hts⟩
  have e6 : zmH 185 = 7 := by decide +kernel
  simp only [o_us1] at h
  split at h
  · rename_i most all sum h0 h6 h8 h9
    split at h
    · rename_i hu
      cases h
      intro G H locs ls hat hlh hwf
      show W p l e R s mid args below meth c H locs R.cells R.slots Q (F0 mid 778 ls [])
      have l0 : ls[0]? = some (.val (.ref (A 0))) := hlh.2.2.2 0 _ (zat0_at h0)
      have l6 : ls[6]? = some (.val (.int (Int32.ofInt most))) := hlh.2.2.2 6 _ (zat0_at h6)
      have l8 : ls[8]? = some (.val (.int (Int32.ofInt all))) := hlh.2.2.2 8 _ (zat0_at h8)
      have l9 : ls[9]? = some (.val (.int (Int32.ofInt sum))) := hlh.2.2.2 9 _ (zat0_at h9)
      have r8 : zr all := hwf.1 8 _ (zat0_at h8)
      have fin : ∀ (H1 : Heap) (locs1 : List Loc) (q : UInt64), vf_n64 q → zAt A A0 D cI cQ s.heap H1 locs1 σ → W p l e R s mid args below meth c H1 locs1 R.cells R.slots Q (F0 mid 800 ls [.double q, .double q]) := by
        intro H1 locs1 q hq hat1
        refine lv_dcmp hx hb (by decide +kernel : decode (zmB 185) 800 = .ok (.dcmp .l, 1)) ?_
        rw [zdcmp_self hq]
        refine lv_if_ne (tgt := 808) hx hb (by decide +kernel : decode (zmB 185) 801 = .ok (.ifCond .ne 7, 3)) (by decide) (fun q => absurd rfl q) (fun _ => ?_)
        exact G H1 locs1 ls hat1 hlh ⟨hwf.1, (fun v hv => by cases hv), hwf.2.2⟩
      refine lv_aload_n hx hb (by decide +kernel : decode (zmB 185) 778 = .ok (.aload_n 0, 1)) rfl l0 ?_
      rcases hu with ⟨a0, hu⟩ | ⟨a0, hu, hv⟩
      · refine zus_go S (hu hwf.2.2) hw hin hse hcd hini (by omega) (by omega) hlh.2.1 hdg hK hN hat hA (fun H1 locs1 hat1 => ?_)
        refine lv_iload hx hb (by decide +kernel : decode (zmB 185) 782 = .ok (.iload 8, 2)) l8 ?_
        refine lv_if_ne (tgt := 791) hx hb (by decide +kernel : decode (zmB 185) 784 = .ok (.ifCond .ne 7, 3)) (by decide) (fun q => absurd ((zof_eq0 r8).mpr a0) q) (fun _ => ?_)
        refine lv_dconst0 hx hb (by decide +kernel : decode (zmB 185) 787 = .ok (.dconst 0, 1)) ?_
        refine lv_goto (tgt := 800) hx hb (by decide +kernel : decode (zmB 185) 788 = .ok (.goto 12, 3)) (by decide) ?_
        exact fin H1 locs1 _ (show vf_n64 FP.dconst0 from (by decide +kernel : FP.dconst0 &&& 0x7fffffffffffffff ≤ 0x7ff0000000000000)) hat1
      · refine zus_go S (hu hwf.2.2) hw hin hse hcd hini (by omega) (by omega) hlh.2.1 hdg hK hN hat hA (fun H1 locs1 hat1 => ?_)
        refine lv_iload hx hb (by decide +kernel : decode (zmB 185) 782 = .ok (.iload 8, 2)) l8 ?_
        refine lv_if_ne (tgt := 791) hx hb (by decide +kernel : decode (zmB 185) 784 = .ok (.ifCond .ne 7, 3)) (by decide) (fun _ => ?_) (fun q => absurd ((zof_eq0 r8).mp q) a0)
        refine lv_iload hx hb (by decide +kernel : decode (zmB 185) 791 = .ok (.iload 9, 2)) l9 ?_
        refine lv_i2d hx hb (by decide +kernel : decode (zmB 185) 793 = .ok (.i2d, 1)) ?_
        refine lv_iconst (v := Int32.ofInt 3) hx hb (by decide +kernel : decode (zmB 185) 794 = .ok (.iconst 3, 1)) (by decide) ?_
        refine lv_iload hx hb (by decide +kernel : decode (zmB 185) 795 = .ok (.iload 6, 2)) l6 ?_
        refine lv_imul hx hb (by decide +kernel : decode (zmB 185) 797 = .ok (.imul, 1)) ?_
        rw [← Int32.ofInt_mul]
        refine lv_i2d hx hb (by decide +kernel : decode (zmB 185) 798 = .ok (.i2d, 1)) ?_
        refine lv_ddiv hx hb (by decide +kernel : decode (zmB 185) 799 = .ok (.ddiv, 1)) hv ?_
        exact fin H1 locs1 _ hv hat1
    · cases h
  · cases h
