/-! ===== 61: what a throw needs ===== -/
def zexn (k : Nat) : String := match k with
  | 1 => "java/lang/IllegalArgumentException"
  | 2 => "java/lang/IllegalStateException"
  | _ => "java/lang/IndexOutOfBoundsException"
abbrev zNm : List String := ["java/lang/RuntimeException", "java/lang/Exception"]
def zStr : List (Nat × String) := [(41, "machines: 2 to 5"), (60, "weight: 1 to 9, due: 0 to 999"), (68, "there are 6 jobs"), (84, "no such job or machine"), (87, "duration: 1 to 20"), (92, "the job has 5 operations"), (98, "no such machine"), (100, "begin: 0 to 500, length: 1 to 50"), (105, "there are 6 breakdowns"), (113, "there is no breakdown"), (118, "rule: 0 to 3"), (128, "there is no plan"), (145, "moment: 0 to 999, rule: 0 to 3"), (155, "no such job"), (157, "units: 1 to 99"), (162, "the due date would be greater than 999"), (174, "no such job or operation"), (182, "the duration is 1"), (184, "what: 0 to 5"), (199, "what: 0 to 4"), (213, "no such breakdown"), (215, "what: 0 to 2"), (226, "what: 0 to 9"), (240, "no such machine, or a negative place"), (251, "moment: 0 to 999"), (272, "value: 0 to 127"), (277, "the text has 100 bytes"), (297, "there is no saved state")]
def zNg : List Cond := [.declares (Bundle.initS "java/lang/RuntimeException"), .declares (Bundle.initS "java/lang/Exception"), .declares (Bundle.initS Bundle.tN), .castable (zexn 1) (zexn 1), .castable (zexn 2) (zexn 2), .castable (zexn 3) (zexn 3)]
def zTv (U : State) : Prop := (∀ w ∈ zNg, va_Nw w U) ∧ ∀ q ∈ zStr, ∃ sa, vk_R RX4 q.1 q.2 sa U
theorem zNg_ot : ∀ w ∈ zNg, w.onTables = true := by
  intro w hw
  simp only [zNg, List.mem_cons, List.not_mem_nil, or_false] at hw
  rcases hw with rfl | rfl | rfl | rfl | rfl | rfl <;> rfl
theorem zNg_warm {s U : State} (hW : s.WarmedH U.vm) : ∀ w ∈ zNg, va_Nw w s → va_Nw w U := by
  intro w hw h
  simp only [zNg, List.mem_cons, List.not_mem_nil, or_false] at hw
  rcases hw with rfl | rfl | rfl | rfl | rfl | rfl <;> first | exact va_Nw.warmC hW h | exact va_Nw.warmD hW h
theorem zTv_warm {s U : State} (hW : s.WarmedH U.vm) (h : zTv s) : zTv U := ⟨fun w hw => zNg_warm hW w hw (h.1 w hw), fun q hq => by
  obtain ⟨sa, w⟩ := h.2 q hq
  exact ⟨sa, vk_R.warm hW w⟩⟩
theorem zTv_same {u U : State} (e : u.vm = U.vm) (h : zTv u) : zTv U := ⟨fun w hw => va_Nw.same (zNg_ot w hw) e (h.1 w hw), fun q hq => by
  obtain ⟨sa, w⟩ := h.2 q hq
  exact ⟨sa, vk_R.same e.symm w⟩⟩
/-- the two statics that a throw reads -/
def zTs (A : Nat → Prop) (U : State) (H : Heap) : Prop := vx_Zq Bundle.tN "UNASSIGNED_STACK" Bundle.steD A U H ∧ vx_Zq Bundle.tN "SUPPRESSED_SENTINEL" Bundle.listD A U H
theorem zTs.kept {A : Nat → Prop} {U : State} {H H1 : Heap} (h : zTs A U H) (hq : ∀ a : Nat, a < H.size → ¬ A a → H1[a]? = H[a]?) : zTs A U H1 := ⟨h.1.kept hq, h.2.kept hq⟩
theorem zTs.moved {A : Nat → Prop} {u U : State} {H : Heap} (hvm : u.vm.Alike U.vm) (h : zTs A u H) : zTs A U H := ⟨vx_Zq.moved hvm h.1, vx_Zq.moved hvm h.2⟩
theorem zTs.narrow {A B : Nat → Prop} {U : State} {H : Heap} (h : zTs A U H) (hAB : ∀ q, B q → A q) : zTs B U H := ⟨h.1.narrow hAB, h.2.narrow hAB⟩
def zWd (k ik ic : Nat) : Prop := Cond.classLink RX4 ik (zexn k) ∈ zWL ∧ Cond.initialized (zexn k) ∈ zWL ∧ (∀ w ∈ (vx_atS RX4 ic (zexn k) zNm).filter goodWord, w ∈ zWL) ∧ (∀ w ∈ (vx_atS RX4 ic (zexn k) zNm).filter (fun w => !goodWord w), w ∈ zNg) ∧ (∀ w ∈ Cond.classLink RX4 ik (zexn k) :: Cond.initialized (zexn k) :: vx_atS RX4 ic (zexn k) zNm, vx_ot w = true) ∧ Bundle.fit (zexn k) = true ∧ 1 ≤ k ∧ k ≤ 3
theorem zmem_all {L B : List Cond} (h : L.all (fun w => decide (w ∈ B)) = true) : ∀ w ∈ L, w ∈ B := fun w hw => of_decide_eq_true (List.all_eq_true.mp h w hw)
theorem zmem_ot {L : List Cond} (h : L.all (fun w => vx_ot w) = true) : ∀ w ∈ L, vx_ot w = true := fun w hw => List.all_eq_true.mp h w hw
theorem zWd_1 : zWd 1 39 43 := ⟨of_decide_eq_true (by decide +kernel), of_decide_eq_true (by decide +kernel), zmem_all (by decide +kernel), zmem_all (by decide +kernel), zmem_ot (by decide +kernel), by decide +kernel, by decide, by decide⟩
theorem zWd_2 : zWd 2 66 70 := ⟨of_decide_eq_true (by decide +kernel), of_decide_eq_true (by decide +kernel), zmem_all (by decide +kernel), zmem_all (by decide +kernel), zmem_ot (by decide +kernel), by decide +kernel, by decide, by decide⟩
theorem zWd_3 : zWd 3 82 86 := ⟨of_decide_eq_true (by decide +kernel), of_decide_eq_true (by decide +kernel), zmem_all (by decide +kernel), zmem_all (by decide +kernel), zmem_ot (by decide +kernel), by decide +kernel, by decide, by decide⟩
