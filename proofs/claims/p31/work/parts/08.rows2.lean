/-! ===== 08: rows for steps that touch the world, calls and ends ===== -/
theorem zat_in {w : Cond} (h : w ∈ zWL) : w ∈ lw_tbl := (List.mem_filter.mp h).1
theorem zfs_at {A : Nat → Nat} {σ : zSt} {k j : Nat} (h : j < znf k) : ((List.range (znf k)).map (zfv A σ k))[j]? = some (zfv A σ k j) := by
  simp [h]
theorem zfs_set {A : Nat → Nat} {σ : zSt} {k j : Nat} {x : Int} (h0 : zfl k j = 0) (hj : j < znf k) : ((List.range (znf k)).map (zfv A σ k)).set j (.int (Int32.ofInt x)) = (List.range (znf k)).map (zfv A (zup σ k j x) k) := by
  apply List.ext_getElem?
  intro i
  by_cases hi : i = j
  · subst hi
    rw [List.getElem?_set_self (by simpa using hj), zfs_at hj]
    simp [zfv, h0, zup]
  · rw [List.getElem?_set_ne (Ne.symm hi)]
    by_cases h9 : i < znf k
    · rw [zfs_at h9, zfs_at h9]
      have e : zup σ k j x k i = σ k i := by simp [zup, hi]
      simp [zfv, e]
    · rw [List.getElem?_eq_none (by simp; omega), List.getElem?_eq_none (by simp; omega)]
def zNf (ci : Nat) : Nat := match ci with
  | 1 => 3
  | 2 => 8
  | 3 => 4
  | 4 => 15
  | 5 => 4
  | _ => 0
theorem znf_of {k ci : Nat} (h : zcl k = ci) : znf k = zNf ci := by
  subst h
  rfl
theorem zent_put {A : Nat → Nat} {cI cQ : ClassId} {σ : zSt} {k j : Nat} {x : Int} (hc : zcl k ≠ 0) (h0 : zfl k j = 0) (hj : j < znf k) : (zW A cI cQ σ).set k (A k, .inr (zcl k - 1, ((List.range (znf k)).map (zfv A σ k)).set j (.int (Int32.ofInt x)))) = zW A cI cQ (zup σ k j x) := by
  refine zW_set (by have := zcl_lt hc; omega) ?_ (fun i hi => zent_ne (fun j' => zup_ne hi j'))
  rw [zent_obj hc, zfs_set h0 hj]
theorem zS_getf {m pc ci j nx idx N : Nat} {C : String} {T : u_T} (hd : decode (zmB m) pc = .ok (.getfield idx, 3)) (hn : nx = pc + 3) (h0 : ci ≠ 0) (hc : zcls[ci - 1]? = some (C, T, N)) (hj : j < N) (hnf : N = zNf ci) (hin : ∀ w ∈ u_ws C T N, w ∈ zWL) (hw : Cond.fieldLink (zmY m).cls idx (T j).1 (T j).2.1 (T j).2.2.1 ∈ zWL) : zSnd m pc (o_getf ci j nx) := by
  subst hn
  intro p l e R s mid args below meth c A A0 D cI cQ Q C L st σ r h
  obtain ⟨hx, hb, hml, hr, hlk, hown, hts, hN, hK, hA, hf, hlo⟩ := C
  simp only [o_getf] at h
  split at h
  · rename_i k st
    cases h1 : Nat.beq (zcl k) ci
    · rw [h1] at h; cases h
    rw [h1] at h
    have hk := Nat.eq_of_beq_eq_true h1
    have hk0 : zcl k ≠ 0 := by rw [hk]; exact h0
    have hk9 := zcl_lt hk0
    have hjn : j < znf k := by rw [znf_of hk, ← hnf]; exact hj
    have key : ∀ (v : zVal) (H : Heap) (locs : List Loc) (ls : Array Slot), zv A v = zfv A σ k j → zAt A A0 D cI cQ s.heap H locs σ → W p l e R s mid args below meth c H locs R.cells R.slots Q (F0 mid (pc + 3) ls (zv A v :: st.map (zv A))) → W p l e R s mid args below meth c H locs R.cells R.slots Q (F0 mid pc ls (.ref (A k) :: st.map (zv A))) := by
      intro v H locs ls hv hat kk
      refine va_get (ci := ci - 1) (v := zfv A σ k j) hx hb hts hin hown hK hat.1 k (by rw [zW_get (by omega), zent_obj hk0, hk]) hc j hj (hts _ hw) (fun _ h9 => h9) (zfs_at hjn) hd ?_
      rw [← hv]
      exact kk
    dsimp only [cond] at h
    split at h
    · rename_i hz
      cases h
      intro G H locs ls hat hlh hwf
      refine key (zI (σ k j)) H locs ls (by simp [zfv, hz, zv]) hat ?_
      exact G H locs ls hat hlh ⟨hwf.1, List.forall_mem_cons.mpr ⟨hwf.2.2 k j, fun v hv => hwf.2.1 v (List.mem_cons_of_mem _ hv)⟩, hwf.2.2⟩
    · rename_i q hz
      cases h
      intro G H locs ls hat hlh hwf
      refine key (zR q) H locs ls (by simp [zfv, hz, zv]) hat ?_
      exact G H locs ls hat hlh ⟨hwf.1, List.forall_mem_cons.mpr ⟨trivial, fun v hv => hwf.2.1 v (List.mem_cons_of_mem _ hv)⟩, hwf.2.2⟩
  · cases h
theorem zS_putf {m pc ci j nx idx N : Nat} {C : String} {T : u_T} {ty0 : Nat → FieldType} (hd : decode (zmB m) pc = .ok (.putfield idx, 3)) (hn : nx = pc + 3) (h0 : ci ≠ 0) (hc : zcls[ci - 1]? = some (C, T, N)) (hj : j < N) (hnf : N = zNf ci) (hin : ∀ w ∈ u_ws C T N, w ∈ zWL) (hty : ∀ k, k < N → parseFieldDescriptor (T k).2.2.1 = some (ty0 k)) (hnm : ∀ a, a < N → ∀ b, b < N → a ≠ b → (T a).2.1 ≠ (T b).2.1) (hfin : (T j).2.2.2 = false) (hft : parseFieldDescriptor (T j).2.2.1 = some .int) (hw : Cond.fieldLink (zmY m).cls idx (T j).1 (T j).2.1 (T j).2.2.1 ∈ zWL) : zSnd m pc (o_putf ci j nx) := by
  subst hn
  intro p l e R s mid args below meth c A A0 D cI cQ Q C L st σ r h
  obtain ⟨hx, hb, hml, hr, hlk, hown, hts, hN, hK, hA, hf, hlo⟩ := C
  simp only [o_putf] at h
  split at h
  · rename_i x k st
    cases h1 : Nat.beq (zcl k) ci
    · rw [h1] at h; cases h
    cases h2 : Nat.beq (zfl k j) 0
    · rw [h1, h2] at h; cases h
    rw [h1, h2] at h
    have hk := Nat.eq_of_beq_eq_true h1
    have hz := Nat.eq_of_beq_eq_true h2
    have hk0 : zcl k ≠ 0 := by rw [hk]; exact h0
    have hk9 := zcl_lt hk0
    have hjn : j < znf k := by rw [znf_of hk, ← hnf]; exact hj
    dsimp only [cond, Bool.and] at h
    cases h
    intro G H locs ls hat hlh hwf
    have hxr : zr x := hwf.2.1 _ List.mem_cons_self
    refine va_put (ci := ci - 1) (v := .int (Int32.ofInt x)) (ty := .int) hx hb hts hin ty0 hty hnm hown hK hat.1 hat.2.1 hat.2.2 k (by rw [zW_get (by omega), zent_obj hk0, hk]) hc j hj (hts _ hw) (fun _ h9 => h9) hfin hft rfl rfl (by simpa using hjn) hd (fun H1 locs1 hP1 hD1 hS1 => ?_)
    rw [← hk, zent_put hk0 hz hjn] at hP1 hD1
    exact G H1 locs1 ls ⟨hP1, hD1, hS1⟩ hlh ⟨hwf.1, fun v hv => hwf.2.1 v (List.mem_cons_of_mem _ (List.mem_cons_of_mem _ hv)), zoks_up hwf.2.2 hxr⟩
  · cases h
theorem zS_putz {m pc ci j nx idx N : Nat} {C : String} {T : u_T} {ty0 : Nat → FieldType} (hd : decode (zmB m) pc = .ok (.putfield idx, 3)) (hn : nx = pc + 3) (h0 : ci ≠ 0) (hc : zcls[ci - 1]? = some (C, T, N)) (hj : j < N) (hnf : N = zNf ci) (hin : ∀ w ∈ u_ws C T N, w ∈ zWL) (hty : ∀ k, k < N → parseFieldDescriptor (T k).2.2.1 = some (ty0 k)) (hnm : ∀ a, a < N → ∀ b, b < N → a ≠ b → (T a).2.1 ≠ (T b).2.1) (hfin : (T j).2.2.2 = false) (hft : parseFieldDescriptor (T j).2.2.1 = some .boolean) (hw : Cond.fieldLink (zmY m).cls idx (T j).1 (T j).2.1 (T j).2.2.1 ∈ zWL) : zSnd m pc (o_putz ci j nx) := by
  subst hn
  intro p l e R s mid args below meth c A A0 D cI cQ Q C L st σ r h
  obtain ⟨hx, hb, hml, hr, hlk, hown, hts, hN, hK, hA, hf, hlo⟩ := C
  simp only [o_putz] at h
  split at h
  · rename_i x k st
    cases h1 : Nat.beq (zcl k) ci
    · rw [h1] at h; cases h
    cases h2 : Nat.beq (zfl k j) 0
    · rw [h1, h2] at h; cases h
    rw [h1, h2] at h
    have hk := Nat.eq_of_beq_eq_true h1
    have hz := Nat.eq_of_beq_eq_true h2
    have hk0 : zcl k ≠ 0 := by rw [hk]; exact h0
    have hk9 := zcl_lt hk0
    have hjn : j < znf k := by rw [znf_of hk, ← hnf]; exact hj
    dsimp only [cond, Bool.and] at h
    split at h
    case isFalse => cases h
    rename_i h01
    cases h
    intro G H locs ls hat hlh hwf
    have hxr : zr x := hwf.2.1 _ List.mem_cons_self
    refine va_put (ci := ci - 1) (v := .int (Int32.ofInt x)) (ty := .boolean) hx hb hts hin ty0 hty hnm hown hK hat.1 hat.2.1 hat.2.2 k (by rw [zW_get (by omega), zent_obj hk0, hk]) hc j hj (hts _ hw) (fun _ h9 => h9) hfin hft (by rcases h01 with q | q <;> rw [q] <;> rfl) (by rcases h01 with q | q <;> rw [q] <;> rfl) (by simpa using hjn) hd (fun H1 locs1 hP1 hD1 hS1 => ?_)
    rw [← hk, zent_put hk0 hz hjn] at hP1 hD1
    exact G H1 locs1 ls ⟨hP1, hD1, hS1⟩ hlh ⟨hwf.1, fun v hv => hwf.2.1 v (List.mem_cons_of_mem _ (List.mem_cons_of_mem _ hv)), zoks_up hwf.2.2 hxr⟩
  · cases h
theorem zS_getfN {m pc ci j nx idx N : Nat} {C : String} {T : u_T} (hd : decode (zmB m) pc = .ok (.getfield idx, 3)) (hn : nx = pc + 3) (h0 : ci ≠ 0) (hc : zcls[ci - 1]? = some (C, T, N)) (hj : j < N) (hnf : N = zNf ci) (hin : ∀ w ∈ u_ws C T N, w ∈ zWL) {host : String} (hw : Cond.fieldLinkNest (zmY m).cls idx (T j).1 (T j).2.1 (T j).2.2.1 host ∈ zNL) : zSnd m pc (o_getf ci j nx) := by
  subst hn
  intro p l e R s mid args below meth c A A0 D cI cQ Q C L st σ r h
  obtain ⟨hx, hb, hml, hr, hlk, hown, hts, hN, hK, hA, hf, hlo⟩ := C
  simp only [o_getf] at h
  split at h
  · rename_i k st
    cases h1 : Nat.beq (zcl k) ci
    · rw [h1] at h; cases h
    rw [h1] at h
    have hk := Nat.eq_of_beq_eq_true h1
    have hk0 : zcl k ≠ 0 := by rw [hk]; exact h0
    have hk9 := zcl_lt hk0
    have hjn : j < znf k := by rw [znf_of hk, ← hnf]; exact hj
    have key : ∀ (v : zVal) (H : Heap) (locs : List Loc) (ls : Array Slot), zv A v = zfv A σ k j → zAt A A0 D cI cQ s.heap H locs σ → W p l e R s mid args below meth c H locs R.cells R.slots Q (F0 mid (pc + 3) ls (zv A v :: st.map (zv A))) → W p l e R s mid args below meth c H locs R.cells R.slots Q (F0 mid pc ls (.ref (A k) :: st.map (zv A))) := by
      intro v H locs ls hv hat kk
      refine va_getN (ci := ci - 1) (v := zfv A σ k j) hx hb hts hin hown hK hat.1 k (by rw [zW_get (by omega), zent_obj hk0, hk]) hc j hj (va_Nw.use rfl (hN _ hw)) (fun _ h9 => h9) (zfs_at hjn) hd ?_
      rw [← hv]
      exact kk
    dsimp only [cond] at h
    split at h
    · rename_i hz
      cases h
      intro G H locs ls hat hlh hwf
      refine key (zI (σ k j)) H locs ls (by simp [zfv, hz, zv]) hat ?_
      exact G H locs ls hat hlh ⟨hwf.1, List.forall_mem_cons.mpr ⟨hwf.2.2 k j, fun v hv => hwf.2.1 v (List.mem_cons_of_mem _ hv)⟩, hwf.2.2⟩
    · rename_i q hz
      cases h
      intro G H locs ls hat hlh hwf
      refine key (zR q) H locs ls (by simp [zfv, hz, zv]) hat ?_
      exact G H locs ls hat hlh ⟨hwf.1, List.forall_mem_cons.mpr ⟨trivial, fun v hv => hwf.2.1 v (List.mem_cons_of_mem _ hv)⟩, hwf.2.2⟩
  · cases h
theorem zS_putfN {m pc ci j nx idx N : Nat} {C : String} {T : u_T} {ty0 : Nat → FieldType} (hd : decode (zmB m) pc = .ok (.putfield idx, 3)) (hn : nx = pc + 3) (h0 : ci ≠ 0) (hc : zcls[ci - 1]? = some (C, T, N)) (hj : j < N) (hnf : N = zNf ci) (hin : ∀ w ∈ u_ws C T N, w ∈ zWL) (hty : ∀ k, k < N → parseFieldDescriptor (T k).2.2.1 = some (ty0 k)) (hnm : ∀ a, a < N → ∀ b, b < N → a ≠ b → (T a).2.1 ≠ (T b).2.1) (hfin : (T j).2.2.2 = false) (hft : parseFieldDescriptor (T j).2.2.1 = some .int) {host : String} (hw : Cond.fieldLinkNest (zmY m).cls idx (T j).1 (T j).2.1 (T j).2.2.1 host ∈ zNL) : zSnd m pc (o_putf ci j nx) := by
  subst hn
  intro p l e R s mid args below meth c A A0 D cI cQ Q C L st σ r h
  obtain ⟨hx, hb, hml, hr, hlk, hown, hts, hN, hK, hA, hf, hlo⟩ := C
  simp only [o_putf] at h
  split at h
  · rename_i x k st
    cases h1 : Nat.beq (zcl k) ci
    · rw [h1] at h; cases h
    cases h2 : Nat.beq (zfl k j) 0
    · rw [h1, h2] at h; cases h
    rw [h1, h2] at h
    have hk := Nat.eq_of_beq_eq_true h1
    have hz := Nat.eq_of_beq_eq_true h2
    have hk0 : zcl k ≠ 0 := by rw [hk]; exact h0
    have hk9 := zcl_lt hk0
    have hjn : j < znf k := by rw [znf_of hk, ← hnf]; exact hj
    dsimp only [cond, Bool.and] at h
    cases h
    intro G H locs ls hat hlh hwf
    have hxr : zr x := hwf.2.1 _ List.mem_cons_self
    refine va_putN (ci := ci - 1) (v := .int (Int32.ofInt x)) (ty := .int) hx hb hts hin ty0 hty hnm hown hK hat.1 hat.2.1 hat.2.2 k (by rw [zW_get (by omega), zent_obj hk0, hk]) hc j hj (va_Nw.use rfl (hN _ hw)) (fun _ h9 => h9) hfin hft rfl rfl (by simpa using hjn) hd (fun H1 locs1 hP1 hD1 hS1 => ?_)
    rw [← hk, zent_put hk0 hz hjn] at hP1 hD1
    exact G H1 locs1 ls ⟨hP1, hD1, hS1⟩ hlh ⟨hwf.1, fun v hv => hwf.2.1 v (List.mem_cons_of_mem _ (List.mem_cons_of_mem _ hv)), zoks_up hwf.2.2 hxr⟩
  · cases h
theorem zS_putzN {m pc ci j nx idx N : Nat} {C : String} {T : u_T} {ty0 : Nat → FieldType} (hd : decode (zmB m) pc = .ok (.putfield idx, 3)) (hn : nx = pc + 3) (h0 : ci ≠ 0) (hc : zcls[ci - 1]? = some (C, T, N)) (hj : j < N) (hnf : N = zNf ci) (hin : ∀ w ∈ u_ws C T N, w ∈ zWL) (hty : ∀ k, k < N → parseFieldDescriptor (T k).2.2.1 = some (ty0 k)) (hnm : ∀ a, a < N → ∀ b, b < N → a ≠ b → (T a).2.1 ≠ (T b).2.1) (hfin : (T j).2.2.2 = false) (hft : parseFieldDescriptor (T j).2.2.1 = some .boolean) {host : String} (hw : Cond.fieldLinkNest (zmY m).cls idx (T j).1 (T j).2.1 (T j).2.2.1 host ∈ zNL) : zSnd m pc (o_putz ci j nx) := by
  subst hn
  intro p l e R s mid args below meth c A A0 D cI cQ Q C L st σ r h
  obtain ⟨hx, hb, hml, hr, hlk, hown, hts, hN, hK, hA, hf, hlo⟩ := C
  simp only [o_putz] at h
  split at h
  · rename_i x k st
    cases h1 : Nat.beq (zcl k) ci
    · rw [h1] at h; cases h
    cases h2 : Nat.beq (zfl k j) 0
    · rw [h1, h2] at h; cases h
    rw [h1, h2] at h
    have hk := Nat.eq_of_beq_eq_true h1
    have hz := Nat.eq_of_beq_eq_true h2
    have hk0 : zcl k ≠ 0 := by rw [hk]; exact h0
    have hk9 := zcl_lt hk0
    have hjn : j < znf k := by rw [znf_of hk, ← hnf]; exact hj
    dsimp only [cond, Bool.and] at h
    split at h
    case isFalse => cases h
    rename_i h01
    cases h
    intro G H locs ls hat hlh hwf
    have hxr : zr x := hwf.2.1 _ List.mem_cons_self
    refine va_putN (ci := ci - 1) (v := .int (Int32.ofInt x)) (ty := .boolean) hx hb hts hin ty0 hty hnm hown hK hat.1 hat.2.1 hat.2.2 k (by rw [zW_get (by omega), zent_obj hk0, hk]) hc j hj (va_Nw.use rfl (hN _ hw)) (fun _ h9 => h9) hfin hft (by rcases h01 with q | q <;> rw [q] <;> rfl) (by rcases h01 with q | q <;> rw [q] <;> rfl) (by simpa using hjn) hd (fun H1 locs1 hP1 hD1 hS1 => ?_)
    rw [← hk, zent_put hk0 hz hjn] at hP1 hD1
    exact G H1 locs1 ls ⟨hP1, hD1, hS1⟩ hlh ⟨hwf.1, fun v hv => hwf.2.1 v (List.mem_cons_of_mem _ (List.mem_cons_of_mem _ hv)), zoks_up hwf.2.2 hxr⟩
  · cases h
theorem zS_iald {m pc nx : Nat} (hd : decode (zmB m) pc = .ok (.iaload, 1)) (hn : nx = pc + 1) : zSnd m pc (o_iald nx) := by
  subst hn
  intro p l e R s mid args below meth c A A0 D cI cQ Q C L st σ r h
  obtain ⟨hx, hb, hml, hr, hlk, hown, hts, hN, hK, hA, hf, hlo⟩ := C
  simp only [o_iald] at h
  split at h
  · rename_i i k st
    split at h
    · rename_i hi
      cases h
      intro G H locs ls hat hlh hwf
      have hir : zr i := hwf.2.1 _ List.mem_cons_self
      obtain ⟨k1, k2, k3⟩ := zal_lt hi
      refine va_iald (cA := cI) (n := (zal k).toNat) (f := fun j => Int32.ofInt (σ k j)) hx hb hK hat.1 k 0 (by rw [zW_get k2, zent_row k1 k3]) rfl (zin hir hi) hd ?_
      rw [zof_cl hir]
      exact G H locs ls hat hlh ⟨hwf.1, List.forall_mem_cons.mpr ⟨hwf.2.2 k _, fun v hv => hwf.2.1 v (List.mem_cons_of_mem _ (List.mem_cons_of_mem _ hv))⟩, hwf.2.2⟩
    · cases h
  · cases h
theorem zent_st {A : Nat → Nat} {cI cQ : ClassId} {σ : zSt} {k j : Nat} {x : Int} (k1 : 9 ≤ k) (k2 : k < 69) (k3 : k ≠ 63) : (zW A cI cQ σ).set k (A k, .inl (cI, (zal k).toNat, .inl (upd (fun j => Int32.ofInt (σ k j)) j (Int32.ofInt x)))) = zW A cI cQ (zup σ k j x) := by
  refine zW_set k2 ?_ (fun i hi => zent_ne (fun j' => zup_ne hi j'))
  rw [zent_row k1 k3]
  congr 4
  funext q
  by_cases hq : q = j
  · subst hq
    simp [upd, zup]
  · simp [upd, zup, hq]
theorem zS_iast {m pc nx : Nat} (hd : decode (zmB m) pc = .ok (.iastore, 1)) (hn : nx = pc + 1) : zSnd m pc (o_iast nx) := by
  subst hn
  intro p l e R s mid args below meth c A A0 D cI cQ Q C L st σ r h
  obtain ⟨hx, hb, hml, hr, hlk, hown, hts, hN, hK, hA, hf, hlo⟩ := C
  simp only [o_iast] at h
  split at h
  · rename_i x i k st
    split at h
    · rename_i hi
      cases h
      intro G H locs ls hat hlh hwf
      have hxr : zr x := hwf.2.1 _ List.mem_cons_self
      have hir : zr i := hwf.2.1 _ (List.mem_cons_of_mem _ List.mem_cons_self)
      obtain ⟨k1, k2, k3⟩ := zal_lt hi
      refine va_iast (cA := cI) (n := (zal k).toNat) (f := fun j => Int32.ofInt (σ k j)) hx hb hK hat.1 hat.2.1 hat.2.2 k 0 (by rw [zW_get k2, zent_row k1 k3]) rfl (zin hir hi) hd (fun H1 locs1 hP1 hD1 hS1 => ?_)
      rw [zof_cl hir, zent_st k1 k2 k3] at hP1 hD1
      exact G H1 locs1 ls ⟨hP1, hD1, hS1⟩ hlh ⟨hwf.1, fun v hv => hwf.2.1 v (List.mem_cons_of_mem _ (List.mem_cons_of_mem _ (List.mem_cons_of_mem _ hv))), zoks_up hwf.2.2 hxr⟩
    · cases h
  · cases h
theorem zS_aald {m pc nx : Nat} (hd : decode (zmB m) pc = .ok (.aaload, 1)) (hn : nx = pc + 1) : zSnd m pc (o_aald nx) := by
  subst hn
  intro p l e R s mid args below meth c A A0 D cI cQ Q C L st σ r h
  obtain ⟨hx, hb, hml, hr, hlk, hown, hts, hN, hK, hA, hf, hlo⟩ := C
  simp only [o_aald] at h
  split at h
  · rename_i i k st
    cases h1 : Nat.beq k 63
    · rw [h1] at h; cases h
    rw [h1] at h
    have hk := Nat.eq_of_beq_eq_true h1
    subst hk
    dsimp only [cond] at h
    have key : ∀ (q : Nat) (H : Heap) (locs : List Loc) (ls : Array Slot), q < 4 → i = (q : Int) → zAt A A0 D cI cQ s.heap H locs σ → W p l e R s mid args below meth c H locs R.cells R.slots Q (F0 mid (pc + 1) ls (.ref (A (3 + q)) :: st.map (zv A))) → W p l e R s mid args below meth c H locs R.cells R.slots Q (F0 mid pc ls (.int (Int32.ofInt i) :: .ref (A 63) :: st.map (zv A))) := by
      intro q H locs ls hq hi hat kk
      have hir : zr i := by constructor <;> omega
      refine va_aldq (cA := cQ) (C := RX3) (n := 4) (f := fun i => some (A (3 + i))) hx hb hK hat.1 63 1 (by rw [zW_get (by decide)]; rfl) rfl ?_ hd ?_
      · have := zin (n := 4) hir ⟨by omega, by omega⟩
        exact this
      · rw [zof_cl hir, hi]
        exact kk
    have fin : ∀ q : Nat, q < 4 → i = (q : Int) → zG m p l e R s mid args below meth c A A0 D cI cQ Q (pc + 1, L, zR (3 + q) :: st, σ) → zG m p l e R s mid args below meth c A A0 D cI cQ Q (pc, L, zI i :: zR 63 :: st, σ) := by
      intro q hq hi G H locs ls hat hlh hwf
      refine key q H locs ls hq hi hat ?_
      exact G H locs ls hat hlh ⟨hwf.1, List.forall_mem_cons.mpr ⟨trivial, fun v hv => hwf.2.1 v (List.mem_cons_of_mem _ (List.mem_cons_of_mem _ hv))⟩, hwf.2.2⟩
    split at h
    · cases h; exact fin 0 (by decide) (by assumption)
    split at h
    · cases h; exact fin 1 (by decide) (by assumption)
    split at h
    · cases h; exact fin 2 (by decide) (by assumption)
    split at h
    · cases h; exact fin 3 (by decide) (by assumption)
    · cases h
  · cases h
theorem zcat_le {A : Nat → Nat} (st : List zVal) : ((st.map (zv A)).map fun v => v.category).sum ≤ 2 * st.length := by
  induction st with
  | nil => simp
  | cons v st ih =>
    have : (zv A v).category ≤ 2 := by rcases v with x | (k | x) <;> simp [zv, Value.category]
    simp only [List.map_cons, List.sum_cons, List.length_cons]
    omega
theorem zof_max {x y : Int} (hx : zr x) (hy : zr y) : (if Int32.ofInt x < Int32.ofInt y then Int32.ofInt y else Int32.ofInt x) = Int32.ofInt (max x y) := by
  by_cases h : x < y
  · rw [if_pos ((zof_lt hx hy).mpr h)]; congr 1; omega
  · rw [if_neg (fun q => h ((zof_lt hx hy).mp q))]; congr 1; omega
theorem zof_min {x y : Int} (hx : zr x) (hy : zr y) : (if Int32.ofInt y < Int32.ofInt x then Int32.ofInt y else Int32.ofInt x) = Int32.ofInt (min x y) := by
  by_cases h : y < x
  · rw [if_pos ((zof_lt hy hx).mpr h)]; congr 1; omega
  · rw [if_neg (fun q => h ((zof_lt hy hx).mp q))]; congr 1; omega
theorem zS_max {m pc nx idx : Nat} (hd : decode (zmB m) pc = .ok (.invokestatic idx, 3)) (hn : nx = pc + 3) (hl : Cond.methodLink (zmY m).cls idx Lib.Math.max.name ∈ zWL) (hst : Cond.static Lib.Math.max.name ∈ zWL) (hi : Cond.initialized "java/lang/Math" ∈ zWL) (hco : Cond.code Lib.Math.max.name Lib.Math.max.code 2 (some .int) ∈ zWL) (hh : 1 ≤ zmH m) : zSnd m pc (o_max nx) := by
  subst hn
  intro p l e R s mid args below meth c A A0 D cI cQ Q C L st σ r h
  obtain ⟨hx, hb, hml, hr, hlk, hown, hts, hN, hK, hA, hf, hlo⟩ := C
  simp only [o_max] at h
  split at h
  · rename_i y x st
    cases h1 : Nat.ble st.length 6
    · rw [h1] at h; cases h
    rw [h1] at h
    have hlen := Nat.le_of_ble_eq_true h1
    cases h
    intro G H locs ls hat hlh hwf
    have hyr : zr y := hwf.2.1 _ List.mem_cons_self
    have hxr : zr x := hwf.2.1 _ (List.mem_cons_of_mem _ List.mem_cons_self)
    have hcat := zcat_le (A := A) st
    refine va_mmax (rest := st.map (zv A)) hx hb (hml.trans hlh.2.1.symm) hown (hts _ hl) (hts _ hst) (hts _ hi) (hts _ hco) (by omega) (by omega) (Nat.le_refl _) (Nat.le_refl _) hd ?_
    rw [zof_max hxr hyr]
    exact G H locs ls hat hlh ⟨hwf.1, List.forall_mem_cons.mpr ⟨(by show zr _; constructor <;> omega), fun v hv => hwf.2.1 v (List.mem_cons_of_mem _ (List.mem_cons_of_mem _ hv))⟩, hwf.2.2⟩
  · cases h
theorem zS_min {m pc nx idx : Nat} (hd : decode (zmB m) pc = .ok (.invokestatic idx, 3)) (hn : nx = pc + 3) (hl : Cond.methodLink (zmY m).cls idx Lib.Math.min.name ∈ zWL) (hst : Cond.static Lib.Math.min.name ∈ zWL) (hi : Cond.initialized "java/lang/Math" ∈ zWL) (hco : Cond.code Lib.Math.min.name Lib.Math.min.code 2 (some .int) ∈ zWL) (hh : 1 ≤ zmH m) : zSnd m pc (o_min nx) := by
  subst hn
  intro p l e R s mid args below meth c A A0 D cI cQ Q C L st σ r h
  obtain ⟨hx, hb, hml, hr, hlk, hown, hts, hN, hK, hA, hf, hlo⟩ := C
  simp only [o_min] at h
  split at h
  · rename_i y x st
    cases h1 : Nat.ble st.length 6
    · rw [h1] at h; cases h
    rw [h1] at h
    have hlen := Nat.le_of_ble_eq_true h1
    cases h
    intro G H locs ls hat hlh hwf
    have hyr : zr y := hwf.2.1 _ List.mem_cons_self
    have hxr : zr x := hwf.2.1 _ (List.mem_cons_of_mem _ List.mem_cons_self)
    have hcat := zcat_le (A := A) st
    refine va_mmin (rest := st.map (zv A)) hx hb (hml.trans hlh.2.1.symm) hown (hts _ hl) (hts _ hst) (hts _ hi) (hts _ hco) (by omega) (by omega) (Nat.le_refl _) (Nat.le_refl _) hd ?_
    rw [zof_min hxr hyr]
    exact G H locs ls hat hlh ⟨hwf.1, List.forall_mem_cons.mpr ⟨(by show zr _; constructor <;> omega), fun v hv => hwf.2.1 v (List.mem_cons_of_mem _ (List.mem_cons_of_mem _ hv))⟩, hwf.2.2⟩
  · cases h
theorem zent_cp {A : Nat → Nat} {cI cQ : ClassId} {σ : zSt} {a d n : Nat} (k1 : 9 ≤ d) (k2 : d < 69) (k3 : d ≠ 63) : (zW A cI cQ σ).set d (A d, .inl (cI, (zal d).toNat, .inl (va_cpy (fun j => Int32.ofInt (σ a j)) (fun j => Int32.ofInt (σ d j)) 0 0 n))) = zW A cI cQ (zcp σ a d n) := by
  refine zW_set k2 ?_ (fun i hi => zent_ne (fun j' => by simp [zcp, hi]))
  rw [zent_row k1 k3]
  congr 4
  funext q
  by_cases hq : q < n
  · simp [zcp, hq, va_cpy]
  · simp [zcp, hq, va_cpy]
theorem zS_copy {m pc nx idx : Nat} (hd : decode (zmB m) pc = .ok (.invokestatic idx, 3)) (hn : nx = pc + 3) (hl : Cond.methodLink (zmY m).cls idx arraycopyName ∈ zWL) (hna : Cond.native arraycopyName ∈ zWL) (hst : Cond.static arraycopyName ∈ zWL) (hi : Cond.initialized "java/lang/System" ∈ zWL) (hh : 1 ≤ zmH m) : zSnd m pc (o_copy nx) := by
  subst hn
  intro p l e R s mid args below meth c A A0 D cI cQ Q C L st σ r h
  obtain ⟨hx, hb, hml, hr, hlk, hown, hts, hN, hK, hA, hf, hlo⟩ := C
  simp only [o_copy] at h
  split at h
  · rename_i n dp d sp a st
    split at h
    · rename_i hc
      obtain ⟨e1, e2, c3, c4, c5, c6⟩ := hc
      subst e1; subst e2; subst c6
      cases h
      intro G H locs ls hat hlh hwf
      have hnr : zr n := hwf.2.1 _ List.mem_cons_self
      · obtain ⟨a1, a2, a3⟩ := zal_lt (k := a) (i := 0) ⟨by omega, by omega⟩
        obtain ⟨d1, d2, d3⟩ := zal_lt (k := d) (i := 0) ⟨by omega, by omega⟩
        refine va_copyi (rest := []) (sp := 0) (dp := 0) (n := Int32.ofInt n) (ty := .int) (c0 := cI) (c1 := cI) (n0 := (zal a).toNat) (n1 := (zal d).toNat) (f := fun j => Int32.ofInt (σ a j)) (g := fun j => Int32.ofInt (σ d j)) hx hb (hml.trans hlh.2.1.symm) hown (hts _ hl) (hts _ hna) (hts _ hst) (hts _ hi) hK hat.1 hat.2.1 hat.2.2 a d 0 0 (by rw [zW_get a2, zent_row a1 a3]) (by rw [zW_get d2, zent_row d1 d3]) rfl rfl rfl (by decide) (by decide) (by rw [zof_lt0 hnr]; omega) (by rw [zof_cl hnr]; show 0 + _ ≤ _; omega) (by rw [zof_cl hnr]; show 0 + _ ≤ _; omega) (fun _ _ => rfl) (by omega) ?_ hd (fun H1 locs1 hP1 hD1 hS1 => ?_)
        · have e9 : nativeFrameWords "java/lang/System" "arraycopy" 5 ≤ 20 := by decide +kernel
          simp
          omega
        · rw [zof_cl hnr] at hP1 hD1
          have e0 : (0 : Int32).toNatClampNeg = 0 := rfl
          rw [e0, zent_cp d1 d2 d3] at hP1 hD1
          exact G H1 locs1 ls ⟨hP1, hD1, hS1⟩ hlh ⟨hwf.1, (fun v hv => by cases hv), zoks_cp hwf.2.2⟩
    · cases h
  · cases h
