/-! ===== 07: a row for each kind of step ===== -/
theorem zS_iconst {m pc nx : Nat} {v : Int} (hd : decode (zmB m) pc = .ok (.iconst v, 1)) (hn : nx = pc + 1) (hv : zr v) : zSnd m pc (o_const v nx) := by
  subst hn
  intro p l e R s mid args below meth c A A0 D cI cQ Q C L st σ r h
  obtain ⟨hx, hb, hml, hr, hlk, hown, hts, hN, hK, hA, hf, hlo⟩ := C
  cases h
  intro G H locs ls hat hlh hwf
  refine lv_iconst (v := Int32.ofInt v) hx hb hd rfl ?_
  exact G H locs ls hat hlh ⟨hwf.1, List.forall_mem_cons.mpr ⟨hv, hwf.2.1⟩, hwf.2.2⟩
theorem zS_bipush {m pc nx : Nat} {v : Int} (hd : decode (zmB m) pc = .ok (.bipush v, 2)) (hn : nx = pc + 2) (hv : zr v) (he : (Int8.ofInt v).toInt32 = Int32.ofInt v) : zSnd m pc (o_const v nx) := by
  subst hn
  intro p l e R s mid args below meth c A A0 D cI cQ Q C L st σ r h
  obtain ⟨hx, hb, hml, hr, hlk, hown, hts, hN, hK, hA, hf, hlo⟩ := C
  cases h
  intro G H locs ls hat hlh hwf
  refine lv_bipush (v := Int32.ofInt v) hx hb hd he ?_
  exact G H locs ls hat hlh ⟨hwf.1, List.forall_mem_cons.mpr ⟨hv, hwf.2.1⟩, hwf.2.2⟩
theorem zS_sipush {m pc nx : Nat} {v : Int} (hd : decode (zmB m) pc = .ok (.sipush v, 3)) (hn : nx = pc + 3) (hv : zr v) (he : (Int16.ofInt v).toInt32 = Int32.ofInt v) : zSnd m pc (o_const v nx) := by
  subst hn
  intro p l e R s mid args below meth c A A0 D cI cQ Q C L st σ r h
  obtain ⟨hx, hb, hml, hr, hlk, hown, hts, hN, hK, hA, hf, hlo⟩ := C
  cases h
  intro G H locs ls hat hlh hwf
  refine lv_sipush (v := Int32.ofInt v) hx hb hd he ?_
  exact G H locs ls hat hlh ⟨hwf.1, List.forall_mem_cons.mpr ⟨hv, hwf.2.1⟩, hwf.2.2⟩
theorem zS_ldc {m pc nx : Nat} {v : Int} {idx : Nat} (hd : decode (zmB m) pc = .ok (.ldc idx, 2)) (hn : nx = pc + 2) (hv : zr v) (hw : Cond.constant (zmY m).cls idx (Int32.ofInt v) ∈ zWL) : zSnd m pc (o_const v nx) := by
  subst hn
  intro p l e R s mid args below meth c A A0 D cI cQ Q C L st σ r h
  obtain ⟨hx, hb, hml, hr, hlk, hown, hts, hN, hK, hA, hf, hlo⟩ := C
  cases h
  intro G H locs ls hat hlh hwf
  refine lv_ldc (v := Int32.ofInt v) hx hb hown (hts _ hw) hd ?_
  exact G H locs ls hat hlh ⟨hwf.1, List.forall_mem_cons.mpr ⟨hv, hwf.2.1⟩, hwf.2.2⟩
theorem zS_ldc_w {m pc nx : Nat} {v : Int} {idx : Nat} (hd : decode (zmB m) pc = .ok (.ldc_w idx, 3)) (hn : nx = pc + 3) (hv : zr v) (hw : Cond.constant (zmY m).cls idx (Int32.ofInt v) ∈ zWL) : zSnd m pc (o_const v nx) := by
  subst hn
  intro p l e R s mid args below meth c A A0 D cI cQ Q C L st σ r h
  obtain ⟨hx, hb, hml, hr, hlk, hown, hts, hN, hK, hA, hf, hlo⟩ := C
  cases h
  intro G H locs ls hat hlh hwf
  refine lv_ldcw (v := Int32.ofInt v) hx hb hown (hts _ hw) hd ?_
  exact G H locs ls hat hlh ⟨hwf.1, List.forall_mem_cons.mpr ⟨hv, hwf.2.1⟩, hwf.2.2⟩
theorem zS_ldc2 {m pc nx idx : Nat} {v : Int64} (hd : decode (zmB m) pc = .ok (.ldc2_w idx, 3)) (hn : nx = pc + 3) (hw : Cond.constantLong (zmY m).cls idx v ∈ zWL) : zSnd m pc (o_lconst v nx) := by
  subst hn
  intro p l e R s mid args below meth c A A0 D cI cQ Q C L st σ r h
  obtain ⟨hx, hb, hml, hr, hlk, hown, hts, hN, hK, hA, hf, hlo⟩ := C
  cases h
  intro G H locs ls hat hlh hwf
  refine lv_ldc2 (v := v) hx hb hown (hts _ hw) hd ?_
  exact G H locs ls hat hlh ⟨hwf.1, List.forall_mem_cons.mpr ⟨trivial, hwf.2.1⟩, hwf.2.2⟩
theorem zS_iload {m pc k nx : Nat} (hd : decode (zmB m) pc = .ok (.iload k, 2)) (hn : nx = pc + 2) : zSnd m pc (o_iload k nx) := by
  subst hn
  intro p l e R s mid args below meth c A A0 D cI cQ Q C L st σ r h
  obtain ⟨hx, hb, hml, hr, hlk, hown, hts, hN, hK, hA, hf, hlo⟩ := C
  simp only [o_iload] at h
  split at h
  · rename_i x hk
    cases h
    intro G H locs ls hat hlh hwf
    refine lv_iload hx hb hd (hlh.2.2.2 _ _ hk) ?_
    exact G H locs ls hat hlh ⟨hwf.1, List.forall_mem_cons.mpr ⟨hwf.1 _ _ hk, hwf.2.1⟩, hwf.2.2⟩
  · cases h
theorem zS_iload_n {m pc k nx : Nat} {i : Fin 4} (hd : decode (zmB m) pc = .ok (.iload_n i, 1)) (hi : (i : Nat) = k) (hn : nx = pc + 1) : zSnd m pc (o_iload k nx) := by
  subst hn
  intro p l e R s mid args below meth c A A0 D cI cQ Q C L st σ r h
  obtain ⟨hx, hb, hml, hr, hlk, hown, hts, hN, hK, hA, hf, hlo⟩ := C
  simp only [o_iload] at h
  split at h
  · rename_i x hk
    cases h
    intro G H locs ls hat hlh hwf
    refine lv_iload_n hx hb hd hi (hlh.2.2.2 _ _ hk) ?_
    exact G H locs ls hat hlh ⟨hwf.1, List.forall_mem_cons.mpr ⟨hwf.1 _ _ hk, hwf.2.1⟩, hwf.2.2⟩
  · cases h
theorem zS_aload {m pc k nx : Nat} (hd : decode (zmB m) pc = .ok (.aload k, 2)) (hn : nx = pc + 2) : zSnd m pc (o_aload k nx) := by
  subst hn
  intro p l e R s mid args below meth c A A0 D cI cQ Q C L st σ r h
  obtain ⟨hx, hb, hml, hr, hlk, hown, hts, hN, hK, hA, hf, hlo⟩ := C
  simp only [o_aload] at h
  split at h
  · rename_i x hk
    cases h
    intro G H locs ls hat hlh hwf
    refine lv_aload hx hb hd (hlh.2.2.2 _ _ hk) ?_
    exact G H locs ls hat hlh ⟨hwf.1, List.forall_mem_cons.mpr ⟨hwf.1 _ _ hk, hwf.2.1⟩, hwf.2.2⟩
  · cases h
theorem zS_aload_n {m pc k nx : Nat} {i : Fin 4} (hd : decode (zmB m) pc = .ok (.aload_n i, 1)) (hi : (i : Nat) = k) (hn : nx = pc + 1) : zSnd m pc (o_aload k nx) := by
  subst hn
  intro p l e R s mid args below meth c A A0 D cI cQ Q C L st σ r h
  obtain ⟨hx, hb, hml, hr, hlk, hown, hts, hN, hK, hA, hf, hlo⟩ := C
  simp only [o_aload] at h
  split at h
  · rename_i x hk
    cases h
    intro G H locs ls hat hlh hwf
    refine lv_aload_n hx hb hd hi (hlh.2.2.2 _ _ hk) ?_
    exact G H locs ls hat hlh ⟨hwf.1, List.forall_mem_cons.mpr ⟨hwf.1 _ _ hk, hwf.2.1⟩, hwf.2.2⟩
  · cases h
theorem zS_lload {m pc k nx : Nat} (hd : decode (zmB m) pc = .ok (.lload k, 2)) (hn : nx = pc + 2) : zSnd m pc (o_lload k nx) := by
  subst hn
  intro p l e R s mid args below meth c A A0 D cI cQ Q C L st σ r h
  obtain ⟨hx, hb, hml, hr, hlk, hown, hts, hN, hK, hA, hf, hlo⟩ := C
  simp only [o_lload] at h
  split at h
  · rename_i x hk
    cases h
    intro G H locs ls hat hlh hwf
    refine lv_lload hx hb hd (hlh.2.2.2 _ _ hk) ?_
    exact G H locs ls hat hlh ⟨hwf.1, List.forall_mem_cons.mpr ⟨hwf.1 _ _ hk, hwf.2.1⟩, hwf.2.2⟩
  · cases h
theorem zS_lload_n {m pc k nx : Nat} {i : Fin 4} (hd : decode (zmB m) pc = .ok (.lload_n i, 1)) (hi : (i : Nat) = k) (hn : nx = pc + 1) : zSnd m pc (o_lload k nx) := by
  subst hn
  intro p l e R s mid args below meth c A A0 D cI cQ Q C L st σ r h
  obtain ⟨hx, hb, hml, hr, hlk, hown, hts, hN, hK, hA, hf, hlo⟩ := C
  simp only [o_lload] at h
  split at h
  · rename_i x hk
    cases h
    intro G H locs ls hat hlh hwf
    refine lv_lload_n hx hb hd hi (hlh.2.2.2 _ _ hk) ?_
    exact G H locs ls hat hlh ⟨hwf.1, List.forall_mem_cons.mpr ⟨hwf.1 _ _ hk, hwf.2.1⟩, hwf.2.2⟩
  · cases h
theorem zS_istore {m pc k nx : Nat} (hd : decode (zmB m) pc = .ok (.istore k, 2)) (hn : nx = pc + 2) (hk : k < zmX m) : zSnd m pc (o_istore k nx) := by
  subst hn
  intro p l e R s mid args below meth c A A0 D cI cQ Q C L st σ r h
  obtain ⟨hx, hb, hml, hr, hlk, hown, hts, hN, hK, hA, hf, hlo⟩ := C
  simp only [o_istore] at h
  split at h
  · rename_i x st
    cases h
    intro G H locs ls hat hlh hwf
    have hv := hwf.2.1 _ List.mem_cons_self
    refine lv_istore hx hb hd (zLH_has hlh) hk rfl (fun ls' hl' => ?_)
    exact G H locs ls' hat (zLH_st1 (v := zI x) hlh.1 hl') ⟨fun j w hj => zs1_ok hwf.1 hv hj, fun v hv => hwf.2.1 v (List.mem_cons_of_mem _ hv), hwf.2.2⟩
  · cases h
theorem zS_istore_n {m pc k nx : Nat} {i : Fin 4} (hd : decode (zmB m) pc = .ok (.istore_n i, 1)) (hi : (i : Nat) = k) (hn : nx = pc + 1) (hk : k < zmX m) : zSnd m pc (o_istore k nx) := by
  subst hn
  intro p l e R s mid args below meth c A A0 D cI cQ Q C L st σ r h
  obtain ⟨hx, hb, hml, hr, hlk, hown, hts, hN, hK, hA, hf, hlo⟩ := C
  simp only [o_istore] at h
  split at h
  · rename_i x st
    cases h
    intro G H locs ls hat hlh hwf
    have hv := hwf.2.1 _ List.mem_cons_self
    refine lv_istore_n hx hb hd hi (zLH_has hlh) hk rfl (fun ls' hl' => ?_)
    exact G H locs ls' hat (zLH_st1 (v := zI x) hlh.1 hl') ⟨fun j w hj => zs1_ok hwf.1 hv hj, fun v hv => hwf.2.1 v (List.mem_cons_of_mem _ hv), hwf.2.2⟩
  · cases h
theorem zS_astore {m pc k nx : Nat} (hd : decode (zmB m) pc = .ok (.astore k, 2)) (hn : nx = pc + 2) (hk : k < zmX m) : zSnd m pc (o_astore k nx) := by
  subst hn
  intro p l e R s mid args below meth c A A0 D cI cQ Q C L st σ r h
  obtain ⟨hx, hb, hml, hr, hlk, hown, hts, hN, hK, hA, hf, hlo⟩ := C
  simp only [o_astore] at h
  split at h
  · rename_i x st
    cases h
    intro G H locs ls hat hlh hwf
    have hv := hwf.2.1 _ List.mem_cons_self
    refine lv_astore hx hb hd (zLH_has hlh) hk rfl (fun ls' hl' => ?_)
    exact G H locs ls' hat (zLH_st1 (v := zR x) hlh.1 hl') ⟨fun j w hj => zs1_ok hwf.1 hv hj, fun v hv => hwf.2.1 v (List.mem_cons_of_mem _ hv), hwf.2.2⟩
  · cases h
theorem zS_astore_n {m pc k nx : Nat} {i : Fin 4} (hd : decode (zmB m) pc = .ok (.astore_n i, 1)) (hi : (i : Nat) = k) (hn : nx = pc + 1) (hk : k < zmX m) : zSnd m pc (o_astore k nx) := by
  subst hn
  intro p l e R s mid args below meth c A A0 D cI cQ Q C L st σ r h
  obtain ⟨hx, hb, hml, hr, hlk, hown, hts, hN, hK, hA, hf, hlo⟩ := C
  simp only [o_astore] at h
  split at h
  · rename_i x st
    cases h
    intro G H locs ls hat hlh hwf
    have hv := hwf.2.1 _ List.mem_cons_self
    refine lv_astore_n hx hb hd hi (zLH_has hlh) hk rfl (fun ls' hl' => ?_)
    exact G H locs ls' hat (zLH_st1 (v := zR x) hlh.1 hl') ⟨fun j w hj => zs1_ok hwf.1 hv hj, fun v hv => hwf.2.1 v (List.mem_cons_of_mem _ hv), hwf.2.2⟩
  · cases h
theorem zS_lstore {m pc k nx : Nat} (hd : decode (zmB m) pc = .ok (.lstore k, 2)) (hn : nx = pc + 2) (hk : k + 1 < zmX m) : zSnd m pc (o_lstore k nx) := by
  subst hn
  intro p l e R s mid args below meth c A A0 D cI cQ Q C L st σ r h
  obtain ⟨hx, hb, hml, hr, hlk, hown, hts, hN, hK, hA, hf, hlo⟩ := C
  simp only [o_lstore] at h
  split at h
  · rename_i x st
    cases h
    intro G H locs ls hat hlh hwf
    have hv := hwf.2.1 _ List.mem_cons_self
    refine lv_lstore hx hb hd (zLH_has hlh) hk rfl (fun ls' hl' => ?_)
    exact G H locs ls' hat (zLH_st2 (v := zL x) hlh.1 hl') ⟨fun j w hj => zs2_ok hwf.1 hv hj, fun v hv => hwf.2.1 v (List.mem_cons_of_mem _ hv), hwf.2.2⟩
  · cases h
theorem zS_lstore_n {m pc k nx : Nat} {i : Fin 4} (hd : decode (zmB m) pc = .ok (.lstore_n i, 1)) (hi : (i : Nat) = k) (hn : nx = pc + 1) (hk : k + 1 < zmX m) : zSnd m pc (o_lstore k nx) := by
  subst hn
  intro p l e R s mid args below meth c A A0 D cI cQ Q C L st σ r h
  obtain ⟨hx, hb, hml, hr, hlk, hown, hts, hN, hK, hA, hf, hlo⟩ := C
  simp only [o_lstore] at h
  split at h
  · rename_i x st
    cases h
    intro G H locs ls hat hlh hwf
    have hv := hwf.2.1 _ List.mem_cons_self
    refine lv_lstore_n hx hb hd hi (zLH_has hlh) hk rfl (fun ls' hl' => ?_)
    exact G H locs ls' hat (zLH_st2 (v := zL x) hlh.1 hl') ⟨fun j w hj => zs2_ok hwf.1 hv hj, fun v hv => hwf.2.1 v (List.mem_cons_of_mem _ hv), hwf.2.2⟩
  · cases h
theorem zS_iinc {m pc k nx : Nat} {d : Int} (hd : decode (zmB m) pc = .ok (.iinc k d, 3)) (hn : nx = pc + 3) (hk : k < zmX m) : zSnd m pc (o_iinc k d nx) := by
  subst hn
  intro p l e R s mid args below meth c A A0 D cI cQ Q C L st σ r h
  obtain ⟨hx, hb, hml, hr, hlk, hown, hts, hN, hK, hA, hf, hlo⟩ := C
  simp only [o_iinc] at h
  split at h
  · rename_i x hx0
    cases h
    intro G H locs ls hat hlh hwf
    obtain ⟨i, hi⟩ := List.getElem?_of_mem (zll_in (A := A) hx0)
    have he : Int32.ofInt x + Int32.ofInt d = Int32.ofInt (zw (x + d)) := by rw [zof_zw, Int32.ofInt_add]
    have hzk : zk L k = L := by
      unfold zk
      split
      · rfl
      · rename_i k'
        split
        · rename_i y hy
          exfalso
          have h1 := hlh.2.2.2 _ _ hy
          have h2 := hlh.2.2.1.1 k' _ h1 rfl
          have h3 := hlh.2.2.2 _ _ hx0
          rw [h2] at h3
          cases h3
        · rfl
    refine lv_iinc hx hb hd (zLH_has hlh) hi he hk rfl (fun ls' hl' => ?_)
    have h9 := zLH_st1 (v := zI (zw (x + d))) hlh.1 hl'
    unfold zs1 at h9
    rw [hzk] at h9
    refine G H locs ls' hat h9 ⟨fun j w hj => ?_, hwf.2.1, hwf.2.2⟩
    refine zs1_ok (i := k) (v := zI (zw (x + d))) hwf.1 (zw_r _) (j := j) ?_
    unfold zs1
    rw [hzk]
    exact hj
  · cases h
theorem zS_iadd {m pc nx : Nat} (hd : decode (zmB m) pc = .ok (.iadd, 1)) (hn : nx = pc + 1) : zSnd m pc (o_iadd nx) := by
  subst hn
  intro p l e R s mid args below meth c A A0 D cI cQ Q C L st σ r h
  obtain ⟨hx, hb, hml, hr, hlk, hown, hts, hN, hK, hA, hf, hlo⟩ := C
  simp only [o_iadd] at h
  split at h
  · rename_i y x st
    cases h
    intro G H locs ls hat hlh hwf
    refine lv_iadd hx hb hd ?_
    rw [← Int32.ofInt_add, ← zof_zw (x + y)]
    exact G H locs ls hat hlh ⟨hwf.1, List.forall_mem_cons.mpr ⟨zw_r _, fun v hv => hwf.2.1 v (List.mem_cons_of_mem _ (List.mem_cons_of_mem _ hv))⟩, hwf.2.2⟩
  · cases h
theorem zS_isub {m pc nx : Nat} (hd : decode (zmB m) pc = .ok (.isub, 1)) (hn : nx = pc + 1) : zSnd m pc (o_isub nx) := by
  subst hn
  intro p l e R s mid args below meth c A A0 D cI cQ Q C L st σ r h
  obtain ⟨hx, hb, hml, hr, hlk, hown, hts, hN, hK, hA, hf, hlo⟩ := C
  simp only [o_isub] at h
  split at h
  · rename_i y x st
    cases h
    intro G H locs ls hat hlh hwf
    refine lv_isub hx hb hd ?_
    rw [← Int32.ofInt_sub, ← zof_zw (x - y)]
    exact G H locs ls hat hlh ⟨hwf.1, List.forall_mem_cons.mpr ⟨zw_r _, fun v hv => hwf.2.1 v (List.mem_cons_of_mem _ (List.mem_cons_of_mem _ hv))⟩, hwf.2.2⟩
  · cases h
theorem zS_imul {m pc nx : Nat} (hd : decode (zmB m) pc = .ok (.imul, 1)) (hn : nx = pc + 1) : zSnd m pc (o_imul nx) := by
  subst hn
  intro p l e R s mid args below meth c A A0 D cI cQ Q C L st σ r h
  obtain ⟨hx, hb, hml, hr, hlk, hown, hts, hN, hK, hA, hf, hlo⟩ := C
  simp only [o_imul] at h
  split at h
  · rename_i y x st
    cases h
    intro G H locs ls hat hlh hwf
    refine lv_imul hx hb hd ?_
    rw [← Int32.ofInt_mul, ← zof_zw (x * y)]
    exact G H locs ls hat hlh ⟨hwf.1, List.forall_mem_cons.mpr ⟨zw_r _, fun v hv => hwf.2.1 v (List.mem_cons_of_mem _ (List.mem_cons_of_mem _ hv))⟩, hwf.2.2⟩
  · cases h
theorem zS_ineg {m pc nx : Nat} (hd : decode (zmB m) pc = .ok (.ineg, 1)) (hn : nx = pc + 1) : zSnd m pc (o_ineg nx) := by
  subst hn
  intro p l e R s mid args below meth c A A0 D cI cQ Q C L st σ r h
  obtain ⟨hx, hb, hml, hr, hlk, hown, hts, hN, hK, hA, hf, hlo⟩ := C
  simp only [o_ineg] at h
  split at h
  · rename_i x st
    cases h
    intro G H locs ls hat hlh hwf
    refine lv_ineg hx hb hd ?_
    have he : (0 : Int32) - Int32.ofInt x = Int32.ofInt (zw (-x)) := by rw [zof_zw, Int32.ofInt_neg, Int32.zero_sub]
    have he2 : -(Int32.ofInt x) = Int32.ofInt (zw (-x)) := by rw [zof_zw, Int32.ofInt_neg]
    first | rw [he] | rw [he2]
    exact G H locs ls hat hlh ⟨hwf.1, List.forall_mem_cons.mpr ⟨zw_r _, fun v hv => hwf.2.1 v (List.mem_cons_of_mem _ hv)⟩, hwf.2.2⟩
  · cases h
theorem zS_i2l {m pc nx : Nat} (hd : decode (zmB m) pc = .ok (.i2l, 1)) (hn : nx = pc + 1) : zSnd m pc (o_i2l nx) := by
  subst hn
  intro p l e R s mid args below meth c A A0 D cI cQ Q C L st σ r h
  obtain ⟨hx, hb, hml, hr, hlk, hown, hts, hN, hK, hA, hf, hlo⟩ := C
  simp only [o_i2l] at h
  split at h
  · rename_i x st
    cases h
    intro G H locs ls hat hlh hwf
    refine lv_i2l hx hb hd rfl ?_
    exact G H locs ls hat hlh ⟨hwf.1, List.forall_mem_cons.mpr ⟨trivial, fun v hv => hwf.2.1 v (List.mem_cons_of_mem _ hv)⟩, hwf.2.2⟩
  · cases h
theorem zS_ladd {m pc nx : Nat} (hd : decode (zmB m) pc = .ok (.ladd, 1)) (hn : nx = pc + 1) : zSnd m pc (o_ladd nx) := by
  subst hn
  intro p l e R s mid args below meth c A A0 D cI cQ Q C L st σ r h
  obtain ⟨hx, hb, hml, hr, hlk, hown, hts, hN, hK, hA, hf, hlo⟩ := C
  simp only [o_ladd] at h
  split at h
  · rename_i y x st
    cases h
    intro G H locs ls hat hlh hwf
    refine lv_ladd hx hb hd ?_
    exact G H locs ls hat hlh ⟨hwf.1, List.forall_mem_cons.mpr ⟨trivial, fun v hv => hwf.2.1 v (List.mem_cons_of_mem _ (List.mem_cons_of_mem _ hv))⟩, hwf.2.2⟩
  · cases h
theorem zS_lmul {m pc nx : Nat} (hd : decode (zmB m) pc = .ok (.lmul, 1)) (hn : nx = pc + 1) : zSnd m pc (o_lmul nx) := by
  subst hn
  intro p l e R s mid args below meth c A A0 D cI cQ Q C L st σ r h
  obtain ⟨hx, hb, hml, hr, hlk, hown, hts, hN, hK, hA, hf, hlo⟩ := C
  simp only [o_lmul] at h
  split at h
  · rename_i y x st
    cases h
    intro G H locs ls hat hlh hwf
    refine lv_lmul hx hb hd ?_
    exact G H locs ls hat hlh ⟨hwf.1, List.forall_mem_cons.mpr ⟨trivial, fun v hv => hwf.2.1 v (List.mem_cons_of_mem _ (List.mem_cons_of_mem _ hv))⟩, hwf.2.2⟩
  · cases h
theorem zc1_cat {A : Nat → Nat} {v : zVal} (h : zc1 v = true) : (zv A v).category = 1 := by
  rcases v with x | (k | x)
  · rfl
  · rfl
  · simp [zc1] at h
theorem zS_dup {m pc nx : Nat} (hd : decode (zmB m) pc = .ok (.dup, 1)) (hn : nx = pc + 1) : zSnd m pc (o_dup nx) := by
  subst hn
  intro p l e R s mid args below meth c A A0 D cI cQ Q C L st σ r h
  obtain ⟨hx, hb, hml, hr, hlk, hown, hts, hN, hK, hA, hf, hlo⟩ := C
  simp only [o_dup] at h
  split at h
  · rename_i a st
    cases h1 : zc1 a
    · rw [h1] at h; cases h
    rw [h1] at h
    cases h
    intro G H locs ls hat hlh hwf
    refine lv_dup hx hb hd (zc1_cat h1) ?_
    exact G H locs ls hat hlh ⟨hwf.1, List.forall_mem_cons.mpr ⟨hwf.2.1 _ List.mem_cons_self, hwf.2.1⟩, hwf.2.2⟩
  · cases h
theorem zS_dup2 {m pc nx : Nat} (hd : decode (zmB m) pc = .ok (.dup2, 1)) (hn : nx = pc + 1) : zSnd m pc (o_dup2 nx) := by
  subst hn
  intro p l e R s mid args below meth c A A0 D cI cQ Q C L st σ r h
  obtain ⟨hx, hb, hml, hr, hlk, hown, hts, hN, hK, hA, hf, hlo⟩ := C
  simp only [o_dup2] at h
  split at h
  · rename_i a b st
    cases h1 : zc1 a
    · rw [h1] at h; cases h
    cases h2 : zc1 b
    · rw [h1, h2] at h; cases h
    rw [h1, h2] at h
    cases h
    intro G H locs ls hat hlh hwf
    refine lv_dup2_11 hx hb hd (zc1_cat h1) (zc1_cat h2) ?_
    exact G H locs ls hat hlh ⟨hwf.1, List.forall_mem_cons.mpr ⟨hwf.2.1 _ List.mem_cons_self, List.forall_mem_cons.mpr ⟨hwf.2.1 _ (List.mem_cons_of_mem _ List.mem_cons_self), hwf.2.1⟩⟩, hwf.2.2⟩
  · cases h
theorem zS_pop {m pc nx : Nat} (hd : decode (zmB m) pc = .ok (.pop, 1)) (hn : nx = pc + 1) : zSnd m pc (o_pop nx) := by
  subst hn
  intro p l e R s mid args below meth c A A0 D cI cQ Q C L st σ r h
  obtain ⟨hx, hb, hml, hr, hlk, hown, hts, hN, hK, hA, hf, hlo⟩ := C
  simp only [o_pop] at h
  split at h
  · rename_i a st
    cases h1 : zc1 a
    · rw [h1] at h; cases h
    rw [h1] at h
    cases h
    intro G H locs ls hat hlh hwf
    refine lv_pop hx hb hd (zc1_cat h1) ?_
    exact G H locs ls hat hlh ⟨hwf.1, fun v hv => hwf.2.1 v (List.mem_cons_of_mem _ hv), hwf.2.2⟩
  · cases h
theorem zS_goto {m pc t : Nat} {off : Int} (hd : decode (zmB m) pc = .ok (.goto off, 3)) (ht : (pc : Int) + off = (t : Int)) : zSnd m pc (o_goto t) := by
  intro p l e R s mid args below meth c A A0 D cI cQ Q C L st σ r h
  obtain ⟨hx, hb, hml, hr, hlk, hown, hts, hN, hK, hA, hf, hlo⟩ := C
  cases h
  intro G H locs ls hat hlh hwf
  refine lv_goto hx hb hd ht ?_
  exact G H locs ls hat hlh hwf
theorem zS_ifeq {m pc t nx : Nat} {off : Int} (hd : decode (zmB m) pc = .ok (.ifCond .eq off, 3)) (hn : nx = pc + 3) (ht : (pc : Int) + off = (t : Int)) : zSnd m pc (o_ifeq t nx) := by
  subst hn
  intro p l e R s mid args below meth c A A0 D cI cQ Q C L st σ r h
  obtain ⟨hx, hb, hml, hr, hlk, hown, hts, hN, hK, hA, hf, hlo⟩ := C
  simp only [o_ifeq] at h
  split at h
  · rename_i x st
    cases h
    intro G H locs ls hat hlh hwf
    have hxr : zr x := hwf.2.1 _ List.mem_cons_self
    have hw2 : ∀ v ∈ st, zok v := fun v hv => hwf.2.1 v (List.mem_cons_of_mem _ hv)
    refine lv_if_eq hx hb hd ht (fun h0 => ?_) (fun h0 => ?_)
    · have hc : x = 0 := (zof_eq0 hxr).mp h0
      rw [if_pos hc] at G
      exact G H locs ls hat hlh ⟨hwf.1, hw2, hwf.2.2⟩
    · have hc : ¬ x = 0 := fun q => h0 ((zof_eq0 hxr).mpr q)
      rw [if_neg hc] at G
      exact G H locs ls hat hlh ⟨hwf.1, hw2, hwf.2.2⟩
  · cases h
theorem zS_ifne {m pc t nx : Nat} {off : Int} (hd : decode (zmB m) pc = .ok (.ifCond .ne off, 3)) (hn : nx = pc + 3) (ht : (pc : Int) + off = (t : Int)) : zSnd m pc (o_ifne t nx) := by
  subst hn
  intro p l e R s mid args below meth c A A0 D cI cQ Q C L st σ r h
  obtain ⟨hx, hb, hml, hr, hlk, hown, hts, hN, hK, hA, hf, hlo⟩ := C
  simp only [o_ifne] at h
  split at h
  · rename_i x st
    cases h
    intro G H locs ls hat hlh hwf
    have hxr : zr x := hwf.2.1 _ List.mem_cons_self
    have hw2 : ∀ v ∈ st, zok v := fun v hv => hwf.2.1 v (List.mem_cons_of_mem _ hv)
    refine lv_if_ne hx hb hd ht (fun h0 => ?_) (fun h0 => ?_)
    · have hc : ¬ x = 0 := fun q => h0 ((zof_eq0 hxr).mpr q)
      rw [if_neg hc] at G
      exact G H locs ls hat hlh ⟨hwf.1, hw2, hwf.2.2⟩
    · have hc : x = 0 := (zof_eq0 hxr).mp h0
      rw [if_pos hc] at G
      exact G H locs ls hat hlh ⟨hwf.1, hw2, hwf.2.2⟩
  · cases h
theorem zS_iflt {m pc t nx : Nat} {off : Int} (hd : decode (zmB m) pc = .ok (.ifCond .lt off, 3)) (hn : nx = pc + 3) (ht : (pc : Int) + off = (t : Int)) : zSnd m pc (o_iflt t nx) := by
  subst hn
  intro p l e R s mid args below meth c A A0 D cI cQ Q C L st σ r h
  obtain ⟨hx, hb, hml, hr, hlk, hown, hts, hN, hK, hA, hf, hlo⟩ := C
  simp only [o_iflt] at h
  split at h
  · rename_i x st
    cases h
    intro G H locs ls hat hlh hwf
    have hxr : zr x := hwf.2.1 _ List.mem_cons_self
    have hw2 : ∀ v ∈ st, zok v := fun v hv => hwf.2.1 v (List.mem_cons_of_mem _ hv)
    refine lv_if_lt hx hb hd ht (fun h0 => ?_) (fun h0 => ?_)
    · have hc : x < 0 := (zof_lt0 hxr).mp h0
      rw [if_pos hc] at G
      exact G H locs ls hat hlh ⟨hwf.1, hw2, hwf.2.2⟩
    · have hc : ¬ x < 0 := fun q => h0 ((zof_lt0 hxr).mpr q)
      rw [if_neg hc] at G
      exact G H locs ls hat hlh ⟨hwf.1, hw2, hwf.2.2⟩
  · cases h
theorem zS_ifge {m pc t nx : Nat} {off : Int} (hd : decode (zmB m) pc = .ok (.ifCond .ge off, 3)) (hn : nx = pc + 3) (ht : (pc : Int) + off = (t : Int)) : zSnd m pc (o_ifge t nx) := by
  subst hn
  intro p l e R s mid args below meth c A A0 D cI cQ Q C L st σ r h
  obtain ⟨hx, hb, hml, hr, hlk, hown, hts, hN, hK, hA, hf, hlo⟩ := C
  simp only [o_ifge] at h
  split at h
  · rename_i x st
    cases h
    intro G H locs ls hat hlh hwf
    have hxr : zr x := hwf.2.1 _ List.mem_cons_self
    have hw2 : ∀ v ∈ st, zok v := fun v hv => hwf.2.1 v (List.mem_cons_of_mem _ hv)
    refine lv_if_ge hx hb hd ht (fun h0 => ?_) (fun h0 => ?_)
    · have hc : ¬ x < 0 := by have := (zof_0le hxr).mp h0; omega
      rw [if_neg hc] at G
      exact G H locs ls hat hlh ⟨hwf.1, hw2, hwf.2.2⟩
    · have hc : x < 0 := Int.not_le.mp (fun q => h0 ((zof_0le hxr).mpr q))
      rw [if_pos hc] at G
      exact G H locs ls hat hlh ⟨hwf.1, hw2, hwf.2.2⟩
  · cases h
theorem zS_ifgt {m pc t nx : Nat} {off : Int} (hd : decode (zmB m) pc = .ok (.ifCond .gt off, 3)) (hn : nx = pc + 3) (ht : (pc : Int) + off = (t : Int)) : zSnd m pc (o_ifgt t nx) := by
  subst hn
  intro p l e R s mid args below meth c A A0 D cI cQ Q C L st σ r h
  obtain ⟨hx, hb, hml, hr, hlk, hown, hts, hN, hK, hA, hf, hlo⟩ := C
  simp only [o_ifgt] at h
  split at h
  · rename_i x st
    cases h
    intro G H locs ls hat hlh hwf
    have hxr : zr x := hwf.2.1 _ List.mem_cons_self
    have hw2 : ∀ v ∈ st, zok v := fun v hv => hwf.2.1 v (List.mem_cons_of_mem _ hv)
    refine lv_if_gt hx hb hd ht (fun h0 => ?_) (fun h0 => ?_)
    · have hc : ¬ x ≤ 0 := by have := (zof_0lt hxr).mp h0; omega
      rw [if_neg hc] at G
      exact G H locs ls hat hlh ⟨hwf.1, hw2, hwf.2.2⟩
    · have hc : x ≤ 0 := Int.not_lt.mp (fun q => h0 ((zof_0lt hxr).mpr q))
      rw [if_pos hc] at G
      exact G H locs ls hat hlh ⟨hwf.1, hw2, hwf.2.2⟩
  · cases h
theorem zS_ifle {m pc t nx : Nat} {off : Int} (hd : decode (zmB m) pc = .ok (.ifCond .le off, 3)) (hn : nx = pc + 3) (ht : (pc : Int) + off = (t : Int)) : zSnd m pc (o_ifle t nx) := by
  subst hn
  intro p l e R s mid args below meth c A A0 D cI cQ Q C L st σ r h
  obtain ⟨hx, hb, hml, hr, hlk, hown, hts, hN, hK, hA, hf, hlo⟩ := C
  simp only [o_ifle] at h
  split at h
  · rename_i x st
    cases h
    intro G H locs ls hat hlh hwf
    have hxr : zr x := hwf.2.1 _ List.mem_cons_self
    have hw2 : ∀ v ∈ st, zok v := fun v hv => hwf.2.1 v (List.mem_cons_of_mem _ hv)
    refine lv_if_le hx hb hd ht (fun h0 => ?_) (fun h0 => ?_)
    · have hc : x ≤ 0 := (zof_le0 hxr).mp h0
      rw [if_pos hc] at G
      exact G H locs ls hat hlh ⟨hwf.1, hw2, hwf.2.2⟩
    · have hc : ¬ x ≤ 0 := fun q => h0 ((zof_le0 hxr).mpr q)
      rw [if_neg hc] at G
      exact G H locs ls hat hlh ⟨hwf.1, hw2, hwf.2.2⟩
  · cases h
theorem zS_ceq {m pc t nx : Nat} {off : Int} (hd : decode (zmB m) pc = .ok (.if_icmp .eq off, 3)) (hn : nx = pc + 3) (ht : (pc : Int) + off = (t : Int)) : zSnd m pc (o_ceq t nx) := by
  subst hn
  intro p l e R s mid args below meth c A A0 D cI cQ Q C L st σ r h
  obtain ⟨hx, hb, hml, hr, hlk, hown, hts, hN, hK, hA, hf, hlo⟩ := C
  simp only [o_ceq] at h
  split at h
  · rename_i y x st
    cases h
    intro G H locs ls hat hlh hwf
    have hyr : zr y := hwf.2.1 _ List.mem_cons_self
    have hxr : zr x := hwf.2.1 _ (List.mem_cons_of_mem _ List.mem_cons_self)
    have hw2 : ∀ v ∈ st, zok v := fun v hv => hwf.2.1 v (List.mem_cons_of_mem _ (List.mem_cons_of_mem _ hv))
    refine lv_icmp_eq hx hb hd ht (fun h0 => ?_) (fun h0 => ?_)
    · have hc : x = y := (zof_inj hxr hyr).mp h0
      rw [if_pos hc] at G
      exact G H locs ls hat hlh ⟨hwf.1, hw2, hwf.2.2⟩
    · have hc : ¬ x = y := fun q => h0 ((zof_inj hxr hyr).mpr q)
      rw [if_neg hc] at G
      exact G H locs ls hat hlh ⟨hwf.1, hw2, hwf.2.2⟩
  · cases h
theorem zS_cne {m pc t nx : Nat} {off : Int} (hd : decode (zmB m) pc = .ok (.if_icmp .ne off, 3)) (hn : nx = pc + 3) (ht : (pc : Int) + off = (t : Int)) : zSnd m pc (o_cne t nx) := by
  subst hn
  intro p l e R s mid args below meth c A A0 D cI cQ Q C L st σ r h
  obtain ⟨hx, hb, hml, hr, hlk, hown, hts, hN, hK, hA, hf, hlo⟩ := C
  simp only [o_cne] at h
  split at h
  · rename_i y x st
    cases h
    intro G H locs ls hat hlh hwf
    have hyr : zr y := hwf.2.1 _ List.mem_cons_self
    have hxr : zr x := hwf.2.1 _ (List.mem_cons_of_mem _ List.mem_cons_self)
    have hw2 : ∀ v ∈ st, zok v := fun v hv => hwf.2.1 v (List.mem_cons_of_mem _ (List.mem_cons_of_mem _ hv))
    refine lv_icmp_ne hx hb hd ht (fun h0 => ?_) (fun h0 => ?_)
    · have hc : ¬ x = y := fun q => h0 ((zof_inj hxr hyr).mpr q)
      rw [if_neg hc] at G
      exact G H locs ls hat hlh ⟨hwf.1, hw2, hwf.2.2⟩
    · have hc : x = y := (zof_inj hxr hyr).mp h0
      rw [if_pos hc] at G
      exact G H locs ls hat hlh ⟨hwf.1, hw2, hwf.2.2⟩
  · cases h
theorem zS_clt {m pc t nx : Nat} {off : Int} (hd : decode (zmB m) pc = .ok (.if_icmp .lt off, 3)) (hn : nx = pc + 3) (ht : (pc : Int) + off = (t : Int)) : zSnd m pc (o_clt t nx) := by
  subst hn
  intro p l e R s mid args below meth c A A0 D cI cQ Q C L st σ r h
  obtain ⟨hx, hb, hml, hr, hlk, hown, hts, hN, hK, hA, hf, hlo⟩ := C
  simp only [o_clt] at h
  split at h
  · rename_i y x st
    cases h
    intro G H locs ls hat hlh hwf
    have hyr : zr y := hwf.2.1 _ List.mem_cons_self
    have hxr : zr x := hwf.2.1 _ (List.mem_cons_of_mem _ List.mem_cons_self)
    have hw2 : ∀ v ∈ st, zok v := fun v hv => hwf.2.1 v (List.mem_cons_of_mem _ (List.mem_cons_of_mem _ hv))
    refine lv_icmp_lt hx hb hd ht (fun h0 => ?_) (fun h0 => ?_)
    · have hc : x < y := (zof_lt hxr hyr).mp h0
      rw [if_pos hc] at G
      exact G H locs ls hat hlh ⟨hwf.1, hw2, hwf.2.2⟩
    · have hc : ¬ x < y := fun q => h0 ((zof_lt hxr hyr).mpr q)
      rw [if_neg hc] at G
      exact G H locs ls hat hlh ⟨hwf.1, hw2, hwf.2.2⟩
  · cases h
theorem zS_cge {m pc t nx : Nat} {off : Int} (hd : decode (zmB m) pc = .ok (.if_icmp .ge off, 3)) (hn : nx = pc + 3) (ht : (pc : Int) + off = (t : Int)) : zSnd m pc (o_cge t nx) := by
  subst hn
  intro p l e R s mid args below meth c A A0 D cI cQ Q C L st σ r h
  obtain ⟨hx, hb, hml, hr, hlk, hown, hts, hN, hK, hA, hf, hlo⟩ := C
  simp only [o_cge] at h
  split at h
  · rename_i y x st
    cases h
    intro G H locs ls hat hlh hwf
    have hyr : zr y := hwf.2.1 _ List.mem_cons_self
    have hxr : zr x := hwf.2.1 _ (List.mem_cons_of_mem _ List.mem_cons_self)
    have hw2 : ∀ v ∈ st, zok v := fun v hv => hwf.2.1 v (List.mem_cons_of_mem _ (List.mem_cons_of_mem _ hv))
    refine lv_icmp_ge hx hb hd ht (fun h0 => ?_) (fun h0 => ?_)
    · have hc : ¬ x < y := by have := (zof_le hyr hxr).mp h0; omega
      rw [if_neg hc] at G
      exact G H locs ls hat hlh ⟨hwf.1, hw2, hwf.2.2⟩
    · have hc : x < y := Int.not_le.mp (fun q => h0 ((zof_le hyr hxr).mpr q))
      rw [if_pos hc] at G
      exact G H locs ls hat hlh ⟨hwf.1, hw2, hwf.2.2⟩
  · cases h
theorem zS_cgt {m pc t nx : Nat} {off : Int} (hd : decode (zmB m) pc = .ok (.if_icmp .gt off, 3)) (hn : nx = pc + 3) (ht : (pc : Int) + off = (t : Int)) : zSnd m pc (o_cgt t nx) := by
  subst hn
  intro p l e R s mid args below meth c A A0 D cI cQ Q C L st σ r h
  obtain ⟨hx, hb, hml, hr, hlk, hown, hts, hN, hK, hA, hf, hlo⟩ := C
  simp only [o_cgt] at h
  split at h
  · rename_i y x st
    cases h
    intro G H locs ls hat hlh hwf
    have hyr : zr y := hwf.2.1 _ List.mem_cons_self
    have hxr : zr x := hwf.2.1 _ (List.mem_cons_of_mem _ List.mem_cons_self)
    have hw2 : ∀ v ∈ st, zok v := fun v hv => hwf.2.1 v (List.mem_cons_of_mem _ (List.mem_cons_of_mem _ hv))
    refine lv_icmp_gt hx hb hd ht (fun h0 => ?_) (fun h0 => ?_)
    · have hc : ¬ x ≤ y := by have := (zof_lt hyr hxr).mp h0; omega
      rw [if_neg hc] at G
      exact G H locs ls hat hlh ⟨hwf.1, hw2, hwf.2.2⟩
    · have hc : x ≤ y := Int.not_lt.mp (fun q => h0 ((zof_lt hyr hxr).mpr q))
      rw [if_pos hc] at G
      exact G H locs ls hat hlh ⟨hwf.1, hw2, hwf.2.2⟩
  · cases h
theorem zS_cle {m pc t nx : Nat} {off : Int} (hd : decode (zmB m) pc = .ok (.if_icmp .le off, 3)) (hn : nx = pc + 3) (ht : (pc : Int) + off = (t : Int)) : zSnd m pc (o_cle t nx) := by
  subst hn
  intro p l e R s mid args below meth c A A0 D cI cQ Q C L st σ r h
  obtain ⟨hx, hb, hml, hr, hlk, hown, hts, hN, hK, hA, hf, hlo⟩ := C
  simp only [o_cle] at h
  split at h
  · rename_i y x st
    cases h
    intro G H locs ls hat hlh hwf
    have hyr : zr y := hwf.2.1 _ List.mem_cons_self
    have hxr : zr x := hwf.2.1 _ (List.mem_cons_of_mem _ List.mem_cons_self)
    have hw2 : ∀ v ∈ st, zok v := fun v hv => hwf.2.1 v (List.mem_cons_of_mem _ (List.mem_cons_of_mem _ hv))
    refine lv_icmp_le hx hb hd ht (fun h0 => ?_) (fun h0 => ?_)
    · have hc : x ≤ y := (zof_le hxr hyr).mp h0
      rw [if_pos hc] at G
      exact G H locs ls hat hlh ⟨hwf.1, hw2, hwf.2.2⟩
    · have hc : ¬ x ≤ y := fun q => h0 ((zof_le hxr hyr).mpr q)
      rw [if_neg hc] at G
      exact G H locs ls hat hlh ⟨hwf.1, hw2, hwf.2.2⟩
  · cases h
theorem zS_iand {m pc nx : Nat} (hd : decode (zmB m) pc = .ok (.iand, 1)) (hn : nx = pc + 1) : zSnd m pc (o_iand nx) := by
  subst hn
  intro p l e R s mid args below meth c A A0 D cI cQ Q C L st σ r h
  obtain ⟨hx, hb, hml, hr, hlk, hown, hts, hN, hK, hA, hf, hlo⟩ := C
  simp only [o_iand] at h
  split at h
  · rename_i y x st
    cases h
    intro G H locs ls hat hlh hwf
    refine lv_iand hx hb hd ?_
    rw [← zof_an x y]
    exact G H locs ls hat hlh ⟨hwf.1, List.forall_mem_cons.mpr ⟨zan_r x y, fun v hv => hwf.2.1 v (List.mem_cons_of_mem _ (List.mem_cons_of_mem _ hv))⟩, hwf.2.2⟩
  · cases h
theorem zS_ishr {m pc nx : Nat} (hd : decode (zmB m) pc = .ok (.ishr, 1)) (hn : nx = pc + 1) : zSnd m pc (o_ishr nx) := by
  subst hn
  intro p l e R s mid args below meth c A A0 D cI cQ Q C L st σ r h
  obtain ⟨hx, hb, hml, hr, hlk, hown, hts, hN, hK, hA, hf, hlo⟩ := C
  simp only [o_ishr] at h
  split at h
  · rename_i y x st
    cases h
    intro G H locs ls hat hlh hwf
    refine lv_ishr hx hb hd ?_
    rw [← zof_sh x y]
    exact G H locs ls hat hlh ⟨hwf.1, List.forall_mem_cons.mpr ⟨zsh_r x y, fun v hv => hwf.2.1 v (List.mem_cons_of_mem _ (List.mem_cons_of_mem _ hv))⟩, hwf.2.2⟩
  · cases h
theorem zS_idiv {m pc nx : Nat} (hd : decode (zmB m) pc = .ok (.idiv, 1)) (hn : nx = pc + 1) : zSnd m pc (o_idiv nx) := by
  subst hn
  intro p l e R s mid args below meth c A A0 D cI cQ Q C L st σ r h
  obtain ⟨hx, hb, hml, hr, hlk, hown, hts, hN, hK, hA, hf, hlo⟩ := C
  simp only [o_idiv] at h
  split at h
  · rename_i y x st
    split at h
    · rename_i hc
      cases h
      intro G H locs ls hat hlh hwf
      have hyr : zr y := hwf.2.1 _ List.mem_cons_self
      have hxr : zr x := hwf.2.1 _ (List.mem_cons_of_mem _ List.mem_cons_self)
      obtain ⟨e1, e2⟩ := zof_div hxr hyr hc.1 hc.2
      refine lv_idiv hx hb hd (fun q => by rw [zof_eq0 hyr] at q; have := hc.2; omega) ?_
      rw [e1]
      exact G H locs ls hat hlh ⟨hwf.1, List.forall_mem_cons.mpr ⟨e2, fun v hv => hwf.2.1 v (List.mem_cons_of_mem _ (List.mem_cons_of_mem _ hv))⟩, hwf.2.2⟩
    · cases h
  · cases h
theorem zS_irem {m pc nx : Nat} (hd : decode (zmB m) pc = .ok (.irem, 1)) (hn : nx = pc + 1) : zSnd m pc (o_irem nx) := by
  subst hn
  intro p l e R s mid args below meth c A A0 D cI cQ Q C L st σ r h
  obtain ⟨hx, hb, hml, hr, hlk, hown, hts, hN, hK, hA, hf, hlo⟩ := C
  simp only [o_irem] at h
  split at h
  · rename_i y x st
    split at h
    · rename_i hc
      cases h
      intro G H locs ls hat hlh hwf
      have hyr : zr y := hwf.2.1 _ List.mem_cons_self
      have hxr : zr x := hwf.2.1 _ (List.mem_cons_of_mem _ List.mem_cons_self)
      obtain ⟨e1, e2⟩ := zof_rem hxr hyr hc.1 hc.2
      refine lv_irem hx hb hd (fun q => by rw [zof_eq0 hyr] at q; have := hc.2; omega) ?_
      rw [e1]
      exact G H locs ls hat hlh ⟨hwf.1, List.forall_mem_cons.mpr ⟨e2, fun v hv => hwf.2.1 v (List.mem_cons_of_mem _ (List.mem_cons_of_mem _ hv))⟩, hwf.2.2⟩
    · cases h
  · cases h
theorem zS_dup_x2 {m pc nx : Nat} (hd : decode (zmB m) pc = .ok (.dup_x2, 1)) (hn : nx = pc + 1) : zSnd m pc (o_dup_x2 nx) := by
  subst hn
  intro p l e R s mid args below meth c A A0 D cI cQ Q C L st σ r h
  obtain ⟨hx, hb, hml, hr, hlk, hown, hts, hN, hK, hA, hf, hlo⟩ := C
  simp only [o_dup_x2] at h
  split at h
  · rename_i a b d st
    cases h1 : zc1 a
    · rw [h1] at h; cases h
    cases h2 : zc1 b
    · rw [h1, h2] at h; cases h
    cases h3 : zc1 d
    · rw [h1, h2, h3] at h; cases h
    rw [h1, h2, h3] at h
    cases h
    intro G H locs ls hat hlh hwf
    refine lv_dup_x2 hx hb hd (zc1_cat h1) (zc1_cat h2) (zc1_cat h3) ?_
    have w := hwf.2.1
    exact G H locs ls hat hlh ⟨hwf.1, List.forall_mem_cons.mpr ⟨w _ List.mem_cons_self, List.forall_mem_cons.mpr ⟨w _ (List.mem_cons_of_mem _ List.mem_cons_self), List.forall_mem_cons.mpr ⟨w _ (List.mem_cons_of_mem _ (List.mem_cons_of_mem _ List.mem_cons_self)), List.forall_mem_cons.mpr ⟨w _ List.mem_cons_self, fun v hv => w v (List.mem_cons_of_mem _ (List.mem_cons_of_mem _ (List.mem_cons_of_mem _ hv)))⟩⟩⟩⟩, hwf.2.2⟩
  · cases h
