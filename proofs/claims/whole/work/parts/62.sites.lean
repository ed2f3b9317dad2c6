/-! ===== 62: where the face's methods throw (written by a program, but its head) ===== -/
/-- at pc stands 'throw new E(text)' -/
def zSite (m pc k : Nat) : Prop := (zmY m).cls = RX4 ∧ ∃ (ik is ic : Nat) (tx : String), (is, tx) ∈ zStr ∧ zWd k ik ic ∧ decode (zmB m) pc = .ok (.new ik, 3) ∧ decode (zmB m) (pc + 3) = .ok (.dup, 1) ∧ ((decode (zmB m) (pc + 4) = .ok (.ldc is, 2) ∧ decode (zmB m) (pc + 6) = .ok (.invokespecial ic, 3) ∧ decode (zmB m) (pc + 9) = .ok (.athrow, 1)) ∨ (decode (zmB m) (pc + 4) = .ok (.ldc_w is, 3) ∧ decode (zmB m) (pc + 7) = .ok (.invokespecial ic, 3) ∧ decode (zmB m) (pc + 10) = .ok (.athrow, 1)))
/-- a step throws at such places alone -/
def zThP (m pc : Nat) (f : zOp) : Prop := ∀ (L : zLc) (st : List zVal) (σ : zSt) (k : Nat) (σ' : zSt), f L st σ = some (.inr (.inr (.inr (k, σ')))) → zSite m pc k
/-- a step that never throws -/
def zNt (f : zOp) : Prop := ∀ (L : zLc) (st : List zVal) (σ : zSt) (k : Nat) (σ' : zSt), f L st σ = some (.inr (.inr (.inr (k, σ')))) → False
theorem zTh_nt {m pc : Nat} {f : zOp} (h : zNt f) : zThP m pc f := fun L st σ k σ' e => (h L st σ k σ' e).elim
theorem zTh_thr {m pc k : Nat} (h : zSite m pc k) : zThP m pc (o_thr k) := by
  intro L st σ k' σ' e
  simp only [o_thr] at e
  split at e
  · cases e; exact h
  · cases e
theorem zTh_nd {m pc x k : Nat} {f g : zOp} (hf : zThP m pc f) (hg : zThP m pc g) : zThP m pc (znd x k f g) := by
  unfold znd
  cases Nat.ble x k
  · exact hg
  · exact hf
theorem zTh_lf {m pc k : Nat} {f : zOp} (hf : zThP m k f) : zThP m pc (zlf pc k f) := by
  unfold zlf
  cases h : Nat.beq pc k
  · intro L st σ k' σ' e; cases e
  · have := Nat.eq_of_beq_eq_true h
    subst this
    exact hf
theorem zNt_c {b : Bool} {x : Option zStp} {k : Nat} {σ' : zSt} (hx : x ≠ some (.inr (.inr (.inr (k, σ'))))) (h : cond b x none = some (.inr (.inr (.inr (k, σ'))))) : False := by
  cases b
  · cases h
  · exact hx h
theorem no_const {v nx} : zNt (o_const v nx) := fun L st σ k σ' h => by simp only [o_const, zGo] at h; cases h
theorem no_iload {k nx} : zNt (o_iload k nx) := fun L st σ k σ' h => by
  simp only [o_iload, zGo] at h
  split at h <;> cases h
theorem no_aload {k nx} : zNt (o_aload k nx) := fun L st σ k σ' h => by
  simp only [o_aload, zGo] at h
  split at h <;> cases h
theorem no_istore {k nx} : zNt (o_istore k nx) := fun L st σ k σ' h => by
  simp only [o_istore, zGo] at h
  split at h <;> cases h
theorem no_astore {k nx} : zNt (o_astore k nx) := fun L st σ k σ' h => by
  simp only [o_astore, zGo] at h
  split at h <;> cases h
theorem no_iinc {k d nx} : zNt (o_iinc k d nx) := fun L st σ k σ' h => by
  simp only [o_iinc, zGo] at h
  split at h <;> cases h
theorem no_iadd {nx} : zNt (o_iadd nx) := fun L st σ k σ' h => by
  simp only [o_iadd, zGo] at h
  split at h <;> cases h
theorem no_isub {nx} : zNt (o_isub nx) := fun L st σ k σ' h => by
  simp only [o_isub, zGo] at h
  split at h <;> cases h
theorem no_imul {nx} : zNt (o_imul nx) := fun L st σ k σ' h => by
  simp only [o_imul, zGo] at h
  split at h <;> cases h
theorem no_ineg {nx} : zNt (o_ineg nx) := fun L st σ k σ' h => by
  simp only [o_ineg, zGo] at h
  split at h <;> cases h
theorem no_dup {nx} : zNt (o_dup nx) := fun L st σ k σ' h => by
  simp only [o_dup, zGo] at h
  split at h
  · exact zNt_c (fun q => by cases q) h
  · cases h
theorem no_dup2 {nx} : zNt (o_dup2 nx) := fun L st σ k σ' h => by
  simp only [o_dup2, zGo] at h
  split at h
  · exact zNt_c (fun q => by cases q) h
  · cases h
theorem no_pop {nx} : zNt (o_pop nx) := fun L st σ k σ' h => by
  simp only [o_pop, zGo] at h
  split at h
  · exact zNt_c (fun q => by cases q) h
  · cases h
theorem no_goto {t} : zNt (o_goto t) := fun L st σ k σ' h => by simp only [o_goto, zGo] at h; cases h
theorem no_ifeq {t nx} : zNt (o_ifeq t nx) := fun L st σ k σ' h => by
  simp only [o_ifeq, zGo] at h
  split at h <;> cases h
theorem no_ifne {t nx} : zNt (o_ifne t nx) := fun L st σ k σ' h => by
  simp only [o_ifne, zGo] at h
  split at h <;> cases h
theorem no_iflt {t nx} : zNt (o_iflt t nx) := fun L st σ k σ' h => by
  simp only [o_iflt, zGo] at h
  split at h <;> cases h
theorem no_ifge {t nx} : zNt (o_ifge t nx) := fun L st σ k σ' h => by
  simp only [o_ifge, zGo] at h
  split at h <;> cases h
theorem no_ifgt {t nx} : zNt (o_ifgt t nx) := fun L st σ k σ' h => by
  simp only [o_ifgt, zGo] at h
  split at h <;> cases h
theorem no_ifle {t nx} : zNt (o_ifle t nx) := fun L st σ k σ' h => by
  simp only [o_ifle, zGo] at h
  split at h <;> cases h
theorem no_ceq {t nx} : zNt (o_ceq t nx) := fun L st σ k σ' h => by
  simp only [o_ceq, zGo] at h
  split at h <;> cases h
theorem no_cne {t nx} : zNt (o_cne t nx) := fun L st σ k σ' h => by
  simp only [o_cne, zGo] at h
  split at h <;> cases h
theorem no_clt {t nx} : zNt (o_clt t nx) := fun L st σ k σ' h => by
  simp only [o_clt, zGo] at h
  split at h <;> cases h
theorem no_cge {t nx} : zNt (o_cge t nx) := fun L st σ k σ' h => by
  simp only [o_cge, zGo] at h
  split at h <;> cases h
theorem no_cgt {t nx} : zNt (o_cgt t nx) := fun L st σ k σ' h => by
  simp only [o_cgt, zGo] at h
  split at h <;> cases h
theorem no_cle {t nx} : zNt (o_cle t nx) := fun L st σ k σ' h => by
  simp only [o_cle, zGo] at h
  split at h <;> cases h
theorem no_getf {ci j nx} : zNt (o_getf ci j nx) := fun L st σ k σ' h => by
  simp only [o_getf, zGo] at h
  split at h
  · refine zNt_c (fun q => ?_) h
    split at q <;> cases q
  · cases h
theorem no_putf {ci j nx} : zNt (o_putf ci j nx) := fun L st σ k σ' h => by
  simp only [o_putf, zGo] at h
  split at h
  · exact zNt_c (fun q => by cases q) h
  · cases h
theorem no_putz {ci j nx} : zNt (o_putz ci j nx) := fun L st σ k σ' h => by
  simp only [o_putz, zGo] at h
  split at h
  · refine zNt_c (fun q => ?_) h
    split at q <;> cases q
  · cases h
theorem no_iald {nx} : zNt (o_iald nx) := fun L st σ k σ' h => by
  simp only [o_iald, zGo] at h
  split at h
  · split at h <;> cases h
  · cases h
theorem no_iast {nx} : zNt (o_iast nx) := fun L st σ k σ' h => by
  simp only [o_iast, zGo] at h
  split at h
  · split at h <;> cases h
  · cases h
theorem no_call {m n nl rk nx} : zNt (o_call m n nl rk nx) := fun L st σ k σ' h => by
  simp only [o_call] at h
  exact zNt_c (fun q => by cases q) h
theorem no_callv {ci m n nl rk nx} : zNt (o_callv ci m n nl rk nx) := fun L st σ k σ' h => by
  simp only [o_callv] at h
  split at h
  · exact zNt_c (fun q => by cases q) h
  · cases h
theorem no_max {nx} : zNt (o_max nx) := fun L st σ k σ' h => by
  simp only [o_max, zGo] at h
  split at h
  · exact zNt_c (fun q => by cases q) h
  · cases h
theorem no_min {nx} : zNt (o_min nx) := fun L st σ k σ' h => by
  simp only [o_min, zGo] at h
  split at h
  · exact zNt_c (fun q => by cases q) h
  · cases h
theorem no_sw {l d} : zNt (o_sw l d) := fun L st σ k σ' h => by
  simp only [o_sw, zGo] at h
  split at h <;> cases h
theorem no_iret : zNt o_iret := fun L st σ k σ' h => by
  simp only [o_iret] at h
  split at h <;> cases h
theorem zsi_0_9 : zSite 0 9 1 := ⟨rfl, 39, 41, 43, "machines: 2 to 5", (by decide +kernel), zWd_1, (by decide +kernel), (by decide +kernel), Or.inl ⟨(by decide +kernel), (by decide +kernel), (by decide +kernel)⟩⟩
theorem zTh_0 : ∀ pc, zThP 0 pc (zcode 0 pc) := by
  intro pc
  show zThP 0 pc (zc_0 pc)
  unfold zc_0
  exact (zTh_nd (zTh_nd (zTh_nd (zTh_nd (zTh_lf (zTh_nt no_iload)) (zTh_lf (zTh_nt no_const))) (zTh_nd (zTh_lf (zTh_nt no_const)) (zTh_nd (zTh_lf (zTh_nt no_call)) (zTh_lf (zTh_nt no_ifne))))) (zTh_nd (zTh_nd (zTh_lf (zTh_thr zsi_0_9)) (zTh_lf (zTh_nt no_aload))) (zTh_nd (zTh_lf (zTh_nt no_getf)) (zTh_nd (zTh_lf (zTh_nt no_aload)) (zTh_lf (zTh_nt no_getf)))))) (zTh_nd (zTh_nd (zTh_nd (zTh_lf (zTh_nt no_callv)) (zTh_lf (zTh_nt no_aload))) (zTh_nd (zTh_lf (zTh_nt no_getf)) (zTh_nd (zTh_lf (zTh_nt no_getf)) (zTh_lf (zTh_nt no_istore))))) (zTh_nd (zTh_nd (zTh_lf (zTh_nt no_aload)) (zTh_nd (zTh_lf (zTh_nt no_getf)) (zTh_lf (zTh_nt no_iload)))) (zTh_nd (zTh_lf (zTh_nt no_callv)) (zTh_nd (zTh_lf (zTh_nt no_iload)) (zTh_lf (zTh_nt no_iret)))))))
theorem zsi_1_21 : zSite 1 21 1 := ⟨rfl, 39, 60, 43, "weight: 1 to 9, due: 0 to 999", (by decide +kernel), zWd_1, (by decide +kernel), (by decide +kernel), Or.inl ⟨(by decide +kernel), (by decide +kernel), (by decide +kernel)⟩⟩
theorem zsi_1_41 : zSite 1 41 2 := ⟨rfl, 66, 68, 70, "there are 6 jobs", (by decide +kernel), zWd_2, (by decide +kernel), (by decide +kernel), Or.inl ⟨(by decide +kernel), (by decide +kernel), (by decide +kernel)⟩⟩
theorem zTh_1 : ∀ pc, zThP 1 pc (zcode 1 pc) := by
  intro pc
  show zThP 1 pc (zc_1 pc)
  unfold zc_1
  exact (zTh_nd (zTh_nd (zTh_nd (zTh_nd (zTh_lf (zTh_nt no_iload)) (zTh_nd (zTh_lf (zTh_nt no_const)) (zTh_lf (zTh_nt no_const)))) (zTh_nd (zTh_lf (zTh_nt no_call)) (zTh_nd (zTh_lf (zTh_nt no_ifeq)) (zTh_lf (zTh_nt no_iload))))) (zTh_nd (zTh_nd (zTh_lf (zTh_nt no_const)) (zTh_nd (zTh_lf (zTh_nt no_const)) (zTh_lf (zTh_nt no_call)))) (zTh_nd (zTh_nd (zTh_lf (zTh_nt no_ifne)) (zTh_lf (zTh_thr zsi_1_21))) (zTh_nd (zTh_lf (zTh_nt no_aload)) (zTh_lf (zTh_nt no_getf)))))) (zTh_nd (zTh_nd (zTh_nd (zTh_lf (zTh_nt no_callv)) (zTh_nd (zTh_lf (zTh_nt no_ifne)) (zTh_lf (zTh_thr zsi_1_41)))) (zTh_nd (zTh_nd (zTh_lf (zTh_nt no_aload)) (zTh_lf (zTh_nt no_getf))) (zTh_nd (zTh_lf (zTh_nt no_aload)) (zTh_lf (zTh_nt no_getf))))) (zTh_nd (zTh_nd (zTh_lf (zTh_nt no_callv)) (zTh_nd (zTh_lf (zTh_nt no_aload)) (zTh_lf (zTh_nt no_getf)))) (zTh_nd (zTh_nd (zTh_lf (zTh_nt no_iload)) (zTh_lf (zTh_nt no_iload))) (zTh_nd (zTh_lf (zTh_nt no_callv)) (zTh_lf (zTh_nt no_iret)))))))
theorem zsi_2_22 : zSite 2 22 3 := ⟨rfl, 82, 84, 86, "no such job or machine", (by decide +kernel), zWd_3, (by decide +kernel), (by decide +kernel), Or.inl ⟨(by decide +kernel), (by decide +kernel), (by decide +kernel)⟩⟩
theorem zsi_2_42 : zSite 2 42 1 := ⟨rfl, 39, 87, 43, "duration: 1 to 20", (by decide +kernel), zWd_1, (by decide +kernel), (by decide +kernel), Or.inl ⟨(by decide +kernel), (by decide +kernel), (by decide +kernel)⟩⟩
theorem zsi_2_63 : zSite 2 63 2 := ⟨rfl, 66, 92, 70, "the job has 5 operations", (by decide +kernel), zWd_2, (by decide +kernel), (by decide +kernel), Or.inl ⟨(by decide +kernel), (by decide +kernel), (by decide +kernel)⟩⟩
theorem zTh_2 : ∀ pc, zThP 2 pc (zcode 2 pc) := by
  intro pc
  show zThP 2 pc (zc_2 pc)
  unfold zc_2
  exact (zTh_nd (zTh_nd (zTh_nd (zTh_nd (zTh_nd (zTh_lf (zTh_nt no_aload)) (zTh_lf (zTh_nt no_getf))) (zTh_nd (zTh_lf (zTh_nt no_iload)) (zTh_lf (zTh_nt no_callv)))) (zTh_nd (zTh_nd (zTh_lf (zTh_nt no_ifeq)) (zTh_lf (zTh_nt no_aload))) (zTh_nd (zTh_lf (zTh_nt no_getf)) (zTh_lf (zTh_nt no_iload))))) (zTh_nd (zTh_nd (zTh_nd (zTh_lf (zTh_nt no_callv)) (zTh_lf (zTh_nt no_ifne))) (zTh_nd (zTh_lf (zTh_thr zsi_2_22)) (zTh_lf (zTh_nt no_iload)))) (zTh_nd (zTh_nd (zTh_lf (zTh_nt no_const)) (zTh_lf (zTh_nt no_const))) (zTh_nd (zTh_lf (zTh_nt no_call)) (zTh_nd (zTh_lf (zTh_nt no_ifne)) (zTh_lf (zTh_thr zsi_2_42))))))) (zTh_nd (zTh_nd (zTh_nd (zTh_nd (zTh_lf (zTh_nt no_aload)) (zTh_lf (zTh_nt no_getf))) (zTh_nd (zTh_lf (zTh_nt no_iload)) (zTh_lf (zTh_nt no_callv)))) (zTh_nd (zTh_nd (zTh_lf (zTh_nt no_ifne)) (zTh_lf (zTh_thr zsi_2_63))) (zTh_nd (zTh_lf (zTh_nt no_aload)) (zTh_nd (zTh_lf (zTh_nt no_getf)) (zTh_lf (zTh_nt no_aload)))))) (zTh_nd (zTh_nd (zTh_nd (zTh_lf (zTh_nt no_getf)) (zTh_lf (zTh_nt no_callv))) (zTh_nd (zTh_lf (zTh_nt no_aload)) (zTh_lf (zTh_nt no_getf)))) (zTh_nd (zTh_nd (zTh_lf (zTh_nt no_iload)) (zTh_lf (zTh_nt no_iload))) (zTh_nd (zTh_lf (zTh_nt no_iload)) (zTh_nd (zTh_lf (zTh_nt no_callv)) (zTh_lf (zTh_nt no_iret))))))))
theorem zsi_3_11 : zSite 3 11 3 := ⟨rfl, 82, 98, 86, "no such machine", (by decide +kernel), zWd_3, (by decide +kernel), (by decide +kernel), Or.inl ⟨(by decide +kernel), (by decide +kernel), (by decide +kernel)⟩⟩
theorem zsi_3_42 : zSite 3 42 1 := ⟨rfl, 39, 100, 43, "begin: 0 to 500, length: 1 to 50", (by decide +kernel), zWd_1, (by decide +kernel), (by decide +kernel), Or.inl ⟨(by decide +kernel), (by decide +kernel), (by decide +kernel)⟩⟩
theorem zsi_3_62 : zSite 3 62 2 := ⟨rfl, 66, 105, 70, "there are 6 breakdowns", (by decide +kernel), zWd_2, (by decide +kernel), (by decide +kernel), Or.inl ⟨(by decide +kernel), (by decide +kernel), (by decide +kernel)⟩⟩
theorem zTh_3 : ∀ pc, zThP 3 pc (zcode 3 pc) := by
  intro pc
  show zThP 3 pc (zc_3 pc)
  unfold zc_3
  exact (zTh_nd (zTh_nd (zTh_nd (zTh_nd (zTh_nd (zTh_lf (zTh_nt no_aload)) (zTh_lf (zTh_nt no_getf))) (zTh_nd (zTh_lf (zTh_nt no_iload)) (zTh_lf (zTh_nt no_callv)))) (zTh_nd (zTh_nd (zTh_lf (zTh_nt no_ifne)) (zTh_lf (zTh_thr zsi_3_11))) (zTh_nd (zTh_lf (zTh_nt no_iload)) (zTh_lf (zTh_nt no_const))))) (zTh_nd (zTh_nd (zTh_nd (zTh_lf (zTh_nt no_const)) (zTh_lf (zTh_nt no_call))) (zTh_nd (zTh_lf (zTh_nt no_ifeq)) (zTh_lf (zTh_nt no_iload)))) (zTh_nd (zTh_nd (zTh_lf (zTh_nt no_const)) (zTh_lf (zTh_nt no_const))) (zTh_nd (zTh_lf (zTh_nt no_call)) (zTh_nd (zTh_lf (zTh_nt no_ifne)) (zTh_lf (zTh_thr zsi_3_42))))))) (zTh_nd (zTh_nd (zTh_nd (zTh_nd (zTh_lf (zTh_nt no_aload)) (zTh_lf (zTh_nt no_getf))) (zTh_nd (zTh_lf (zTh_nt no_callv)) (zTh_lf (zTh_nt no_ifne)))) (zTh_nd (zTh_nd (zTh_lf (zTh_thr zsi_3_62)) (zTh_lf (zTh_nt no_aload))) (zTh_nd (zTh_lf (zTh_nt no_getf)) (zTh_lf (zTh_nt no_aload))))) (zTh_nd (zTh_nd (zTh_nd (zTh_lf (zTh_nt no_getf)) (zTh_lf (zTh_nt no_callv))) (zTh_nd (zTh_lf (zTh_nt no_aload)) (zTh_lf (zTh_nt no_getf)))) (zTh_nd (zTh_nd (zTh_lf (zTh_nt no_iload)) (zTh_lf (zTh_nt no_iload))) (zTh_nd (zTh_lf (zTh_nt no_iload)) (zTh_nd (zTh_lf (zTh_nt no_callv)) (zTh_lf (zTh_nt no_iret))))))))
theorem zsi_4_10 : zSite 4 10 2 := ⟨rfl, 66, 113, 70, "there is no breakdown", (by decide +kernel), zWd_2, (by decide +kernel), (by decide +kernel), Or.inl ⟨(by decide +kernel), (by decide +kernel), (by decide +kernel)⟩⟩
theorem zTh_4 : ∀ pc, zThP 4 pc (zcode 4 pc) := by
  intro pc
  show zThP 4 pc (zc_4 pc)
  unfold zc_4
  exact (zTh_nd (zTh_nd (zTh_nd (zTh_nd (zTh_lf (zTh_nt no_aload)) (zTh_lf (zTh_nt no_getf))) (zTh_nd (zTh_lf (zTh_nt no_getf)) (zTh_nd (zTh_lf (zTh_nt no_ifne)) (zTh_lf (zTh_thr zsi_4_10))))) (zTh_nd (zTh_nd (zTh_lf (zTh_nt no_aload)) (zTh_lf (zTh_nt no_getf))) (zTh_nd (zTh_lf (zTh_nt no_aload)) (zTh_nd (zTh_lf (zTh_nt no_getf)) (zTh_lf (zTh_nt no_callv)))))) (zTh_nd (zTh_nd (zTh_nd (zTh_lf (zTh_nt no_aload)) (zTh_lf (zTh_nt no_getf))) (zTh_nd (zTh_lf (zTh_nt no_dup)) (zTh_nd (zTh_lf (zTh_nt no_getf)) (zTh_lf (zTh_nt no_const))))) (zTh_nd (zTh_nd (zTh_lf (zTh_nt no_isub)) (zTh_nd (zTh_lf (zTh_nt no_putf)) (zTh_lf (zTh_nt no_aload)))) (zTh_nd (zTh_lf (zTh_nt no_getf)) (zTh_nd (zTh_lf (zTh_nt no_getf)) (zTh_lf (zTh_nt no_iret)))))))
theorem zsi_5_7 : zSite 5 7 1 := ⟨rfl, 39, 118, 43, "rule: 0 to 3", (by decide +kernel), zWd_1, (by decide +kernel), (by decide +kernel), Or.inl ⟨(by decide +kernel), (by decide +kernel), (by decide +kernel)⟩⟩
theorem zTh_5 : ∀ pc, zThP 5 pc (zcode 5 pc) := by
  intro pc
  show zThP 5 pc (zc_5 pc)
  unfold zc_5
  exact (zTh_nd (zTh_nd (zTh_nd (zTh_lf (zTh_nt no_iload)) (zTh_nd (zTh_lf (zTh_nt no_call)) (zTh_lf (zTh_nt no_ifne)))) (zTh_nd (zTh_lf (zTh_thr zsi_5_7)) (zTh_nd (zTh_lf (zTh_nt no_aload)) (zTh_lf (zTh_nt no_getf))))) (zTh_nd (zTh_nd (zTh_lf (zTh_nt no_aload)) (zTh_nd (zTh_lf (zTh_nt no_getf)) (zTh_lf (zTh_nt no_callv)))) (zTh_nd (zTh_nd (zTh_lf (zTh_nt no_aload)) (zTh_lf (zTh_nt no_iload))) (zTh_nd (zTh_lf (zTh_nt no_callv)) (zTh_lf (zTh_nt no_iret))))))
theorem zsi_6_10 : zSite 6 10 2 := ⟨rfl, 66, 128, 70, "there is no plan", (by decide +kernel), zWd_2, (by decide +kernel), (by decide +kernel), Or.inl ⟨(by decide +kernel), (by decide +kernel), (by decide +kernel)⟩⟩
theorem zTh_6 : ∀ pc, zThP 6 pc (zcode 6 pc) := by
  intro pc
  show zThP 6 pc (zc_6 pc)
  unfold zc_6
  exact (zTh_nd (zTh_nd (zTh_nd (zTh_nd (zTh_lf (zTh_nt no_aload)) (zTh_nd (zTh_lf (zTh_nt no_getf)) (zTh_lf (zTh_nt no_getf)))) (zTh_nd (zTh_lf (zTh_nt no_ifne)) (zTh_nd (zTh_lf (zTh_thr zsi_6_10)) (zTh_lf (zTh_nt no_aload))))) (zTh_nd (zTh_nd (zTh_lf (zTh_nt no_getf)) (zTh_nd (zTh_lf (zTh_nt no_aload)) (zTh_lf (zTh_nt no_getf)))) (zTh_nd (zTh_nd (zTh_lf (zTh_nt no_callv)) (zTh_lf (zTh_nt no_aload))) (zTh_nd (zTh_lf (zTh_nt no_getf)) (zTh_lf (zTh_nt no_callv)))))) (zTh_nd (zTh_nd (zTh_nd (zTh_lf (zTh_nt no_aload)) (zTh_nd (zTh_lf (zTh_nt no_getf)) (zTh_lf (zTh_nt no_aload)))) (zTh_nd (zTh_lf (zTh_nt no_getf)) (zTh_nd (zTh_lf (zTh_nt no_getf)) (zTh_lf (zTh_nt no_callv))))) (zTh_nd (zTh_nd (zTh_lf (zTh_nt no_aload)) (zTh_nd (zTh_lf (zTh_nt no_getf)) (zTh_lf (zTh_nt no_aload)))) (zTh_nd (zTh_nd (zTh_lf (zTh_nt no_getf)) (zTh_lf (zTh_nt no_getf))) (zTh_nd (zTh_lf (zTh_nt no_callv)) (zTh_lf (zTh_nt no_iret)))))))
theorem zsi_7_18 : zSite 7 18 1 := ⟨rfl, 39, 145, 43, "moment: 0 to 999, rule: 0 to 3", (by decide +kernel), zWd_1, (by decide +kernel), (by decide +kernel), Or.inl ⟨(by decide +kernel), (by decide +kernel), (by decide +kernel)⟩⟩
theorem zsi_7_38 : zSite 7 38 2 := ⟨rfl, 66, 128, 70, "there is no plan", (by decide +kernel), zWd_2, (by decide +kernel), (by decide +kernel), Or.inl ⟨(by decide +kernel), (by decide +kernel), (by decide +kernel)⟩⟩
theorem zTh_7 : ∀ pc, zThP 7 pc (zcode 7 pc) := by
  intro pc
  show zThP 7 pc (zc_7 pc)
  unfold zc_7
  exact (zTh_nd (zTh_nd (zTh_nd (zTh_nd (zTh_nd (zTh_lf (zTh_nt no_iload)) (zTh_lf (zTh_nt no_const))) (zTh_nd (zTh_lf (zTh_nt no_const)) (zTh_lf (zTh_nt no_call)))) (zTh_nd (zTh_nd (zTh_lf (zTh_nt no_ifeq)) (zTh_lf (zTh_nt no_iload))) (zTh_nd (zTh_lf (zTh_nt no_call)) (zTh_nd (zTh_lf (zTh_nt no_ifne)) (zTh_lf (zTh_thr zsi_7_18)))))) (zTh_nd (zTh_nd (zTh_nd (zTh_lf (zTh_nt no_aload)) (zTh_lf (zTh_nt no_getf))) (zTh_nd (zTh_lf (zTh_nt no_getf)) (zTh_lf (zTh_nt no_ifne)))) (zTh_nd (zTh_nd (zTh_lf (zTh_thr zsi_7_38)) (zTh_lf (zTh_nt no_aload))) (zTh_nd (zTh_lf (zTh_nt no_getf)) (zTh_nd (zTh_lf (zTh_nt no_aload)) (zTh_lf (zTh_nt no_getf))))))) (zTh_nd (zTh_nd (zTh_nd (zTh_nd (zTh_lf (zTh_nt no_callv)) (zTh_lf (zTh_nt no_aload))) (zTh_nd (zTh_lf (zTh_nt no_getf)) (zTh_lf (zTh_nt no_iload)))) (zTh_nd (zTh_nd (zTh_lf (zTh_nt no_iload)) (zTh_lf (zTh_nt no_callv))) (zTh_nd (zTh_lf (zTh_nt no_aload)) (zTh_nd (zTh_lf (zTh_nt no_getf)) (zTh_lf (zTh_nt no_aload)))))) (zTh_nd (zTh_nd (zTh_nd (zTh_lf (zTh_nt no_getf)) (zTh_lf (zTh_nt no_getf))) (zTh_nd (zTh_lf (zTh_nt no_callv)) (zTh_nd (zTh_lf (zTh_nt no_aload)) (zTh_lf (zTh_nt no_getf))))) (zTh_nd (zTh_nd (zTh_lf (zTh_nt no_aload)) (zTh_lf (zTh_nt no_getf))) (zTh_nd (zTh_lf (zTh_nt no_getf)) (zTh_nd (zTh_lf (zTh_nt no_callv)) (zTh_lf (zTh_nt no_iret))))))))
theorem zsi_8_10 : zSite 8 10 2 := ⟨rfl, 66, 128, 70, "there is no plan", (by decide +kernel), zWd_2, (by decide +kernel), (by decide +kernel), Or.inl ⟨(by decide +kernel), (by decide +kernel), (by decide +kernel)⟩⟩
theorem zTh_8 : ∀ pc, zThP 8 pc (zcode 8 pc) := by
  intro pc
  show zThP 8 pc (zc_8 pc)
  unfold zc_8
  exact (zTh_nd (zTh_nd (zTh_nd (zTh_lf (zTh_nt no_aload)) (zTh_nd (zTh_lf (zTh_nt no_getf)) (zTh_lf (zTh_nt no_getf)))) (zTh_nd (zTh_nd (zTh_lf (zTh_nt no_ifne)) (zTh_lf (zTh_thr zsi_8_10))) (zTh_nd (zTh_lf (zTh_nt no_aload)) (zTh_lf (zTh_nt no_getf))))) (zTh_nd (zTh_nd (zTh_lf (zTh_nt no_aload)) (zTh_nd (zTh_lf (zTh_nt no_getf)) (zTh_lf (zTh_nt no_callv)))) (zTh_nd (zTh_nd (zTh_lf (zTh_nt no_aload)) (zTh_lf (zTh_nt no_getf))) (zTh_nd (zTh_lf (zTh_nt no_callv)) (zTh_lf (zTh_nt no_iret))))))
theorem zsi_9_11 : zSite 9 11 3 := ⟨rfl, 82, 155, 86, "no such job", (by decide +kernel), zWd_3, (by decide +kernel), (by decide +kernel), Or.inl ⟨(by decide +kernel), (by decide +kernel), (by decide +kernel)⟩⟩
theorem zsi_9_31 : zSite 9 31 1 := ⟨rfl, 39, 157, 43, "units: 1 to 99", (by decide +kernel), zWd_1, (by decide +kernel), (by decide +kernel), Or.inl ⟨(by decide +kernel), (by decide +kernel), (by decide +kernel)⟩⟩
theorem zsi_9_58 : zSite 9 58 2 := ⟨rfl, 66, 162, 70, "the due date would be greater than 999", (by decide +kernel), zWd_2, (by decide +kernel), (by decide +kernel), Or.inl ⟨(by decide +kernel), (by decide +kernel), (by decide +kernel)⟩⟩
theorem zTh_9 : ∀ pc, zThP 9 pc (zcode 9 pc) := by
  intro pc
  show zThP 9 pc (zc_9 pc)
  unfold zc_9
  exact (zTh_nd (zTh_nd (zTh_nd (zTh_nd (zTh_nd (zTh_lf (zTh_nt no_aload)) (zTh_nd (zTh_lf (zTh_nt no_getf)) (zTh_lf (zTh_nt no_iload)))) (zTh_nd (zTh_lf (zTh_nt no_callv)) (zTh_nd (zTh_lf (zTh_nt no_ifne)) (zTh_lf (zTh_thr zsi_9_11))))) (zTh_nd (zTh_nd (zTh_lf (zTh_nt no_iload)) (zTh_nd (zTh_lf (zTh_nt no_const)) (zTh_lf (zTh_nt no_const)))) (zTh_nd (zTh_nd (zTh_lf (zTh_nt no_call)) (zTh_lf (zTh_nt no_ifne))) (zTh_nd (zTh_lf (zTh_thr zsi_9_31)) (zTh_lf (zTh_nt no_aload)))))) (zTh_nd (zTh_nd (zTh_nd (zTh_lf (zTh_nt no_getf)) (zTh_nd (zTh_lf (zTh_nt no_getf)) (zTh_lf (zTh_nt no_iload)))) (zTh_nd (zTh_nd (zTh_lf (zTh_nt no_iald)) (zTh_lf (zTh_nt no_iload))) (zTh_nd (zTh_lf (zTh_nt no_iadd)) (zTh_lf (zTh_nt no_const))))) (zTh_nd (zTh_nd (zTh_lf (zTh_nt no_cle)) (zTh_nd (zTh_lf (zTh_thr zsi_9_58)) (zTh_lf (zTh_nt no_aload)))) (zTh_nd (zTh_nd (zTh_lf (zTh_nt no_getf)) (zTh_lf (zTh_nt no_aload))) (zTh_nd (zTh_lf (zTh_nt no_getf)) (zTh_lf (zTh_nt no_callv))))))) (zTh_nd (zTh_nd (zTh_nd (zTh_nd (zTh_lf (zTh_nt no_aload)) (zTh_nd (zTh_lf (zTh_nt no_getf)) (zTh_lf (zTh_nt no_getf)))) (zTh_nd (zTh_nd (zTh_lf (zTh_nt no_iload)) (zTh_lf (zTh_nt no_dup2))) (zTh_nd (zTh_lf (zTh_nt no_iald)) (zTh_lf (zTh_nt no_iload))))) (zTh_nd (zTh_nd (zTh_lf (zTh_nt no_iadd)) (zTh_nd (zTh_lf (zTh_nt no_iast)) (zTh_lf (zTh_nt no_aload)))) (zTh_nd (zTh_nd (zTh_lf (zTh_nt no_getf)) (zTh_lf (zTh_nt no_dup))) (zTh_nd (zTh_lf (zTh_nt no_getf)) (zTh_lf (zTh_nt no_aload)))))) (zTh_nd (zTh_nd (zTh_nd (zTh_lf (zTh_nt no_getf)) (zTh_nd (zTh_lf (zTh_nt no_getf)) (zTh_lf (zTh_nt no_iload)))) (zTh_nd (zTh_nd (zTh_lf (zTh_nt no_iald)) (zTh_lf (zTh_nt no_iload))) (zTh_nd (zTh_lf (zTh_nt no_imul)) (zTh_lf (zTh_nt no_iadd))))) (zTh_nd (zTh_nd (zTh_lf (zTh_nt no_putf)) (zTh_nd (zTh_lf (zTh_nt no_aload)) (zTh_lf (zTh_nt no_getf)))) (zTh_nd (zTh_nd (zTh_lf (zTh_nt no_getf)) (zTh_lf (zTh_nt no_iload))) (zTh_nd (zTh_lf (zTh_nt no_iald)) (zTh_lf (zTh_nt no_iret))))))))
theorem zsi_10_12 : zSite 10 12 3 := ⟨rfl, 82, 174, 86, "no such job or operation", (by decide +kernel), zWd_3, (by decide +kernel), (by decide +kernel), Or.inl ⟨(by decide +kernel), (by decide +kernel), (by decide +kernel)⟩⟩
theorem zsi_10_41 : zSite 10 41 2 := ⟨rfl, 66, 182, 70, "the duration is 1", (by decide +kernel), zWd_2, (by decide +kernel), (by decide +kernel), Or.inl ⟨(by decide +kernel), (by decide +kernel), (by decide +kernel)⟩⟩
theorem zTh_10 : ∀ pc, zThP 10 pc (zcode 10 pc) := by
  intro pc
  show zThP 10 pc (zc_10 pc)
  unfold zc_10
  exact (zTh_nd (zTh_nd (zTh_nd (zTh_nd (zTh_nd (zTh_lf (zTh_nt no_aload)) (zTh_nd (zTh_lf (zTh_nt no_getf)) (zTh_lf (zTh_nt no_iload)))) (zTh_nd (zTh_lf (zTh_nt no_iload)) (zTh_nd (zTh_lf (zTh_nt no_callv)) (zTh_lf (zTh_nt no_ifne))))) (zTh_nd (zTh_nd (zTh_lf (zTh_thr zsi_10_12)) (zTh_nd (zTh_lf (zTh_nt no_iload)) (zTh_lf (zTh_nt no_iload)))) (zTh_nd (zTh_lf (zTh_nt no_call)) (zTh_nd (zTh_lf (zTh_nt no_istore)) (zTh_lf (zTh_nt no_aload)))))) (zTh_nd (zTh_nd (zTh_nd (zTh_lf (zTh_nt no_getf)) (zTh_nd (zTh_lf (zTh_nt no_getf)) (zTh_lf (zTh_nt no_iload)))) (zTh_nd (zTh_lf (zTh_nt no_iald)) (zTh_nd (zTh_lf (zTh_nt no_const)) (zTh_lf (zTh_nt no_cgt))))) (zTh_nd (zTh_nd (zTh_lf (zTh_thr zsi_10_41)) (zTh_nd (zTh_lf (zTh_nt no_aload)) (zTh_lf (zTh_nt no_getf)))) (zTh_nd (zTh_nd (zTh_lf (zTh_nt no_aload)) (zTh_lf (zTh_nt no_getf))) (zTh_nd (zTh_lf (zTh_nt no_callv)) (zTh_lf (zTh_nt no_aload))))))) (zTh_nd (zTh_nd (zTh_nd (zTh_nd (zTh_lf (zTh_nt no_getf)) (zTh_nd (zTh_lf (zTh_nt no_getf)) (zTh_lf (zTh_nt no_iload)))) (zTh_nd (zTh_lf (zTh_nt no_dup2)) (zTh_nd (zTh_lf (zTh_nt no_iald)) (zTh_lf (zTh_nt no_const))))) (zTh_nd (zTh_nd (zTh_lf (zTh_nt no_isub)) (zTh_nd (zTh_lf (zTh_nt no_iast)) (zTh_lf (zTh_nt no_aload)))) (zTh_nd (zTh_lf (zTh_nt no_getf)) (zTh_nd (zTh_lf (zTh_nt no_dup)) (zTh_lf (zTh_nt no_getf)))))) (zTh_nd (zTh_nd (zTh_nd (zTh_lf (zTh_nt no_const)) (zTh_nd (zTh_lf (zTh_nt no_iadd)) (zTh_lf (zTh_nt no_putf)))) (zTh_nd (zTh_lf (zTh_nt no_aload)) (zTh_nd (zTh_lf (zTh_nt no_getf)) (zTh_lf (zTh_nt no_const))))) (zTh_nd (zTh_nd (zTh_lf (zTh_nt no_putz)) (zTh_nd (zTh_lf (zTh_nt no_aload)) (zTh_lf (zTh_nt no_getf)))) (zTh_nd (zTh_nd (zTh_lf (zTh_nt no_getf)) (zTh_lf (zTh_nt no_iload))) (zTh_nd (zTh_lf (zTh_nt no_iald)) (zTh_lf (zTh_nt no_iret))))))))
theorem zsi_11_11 : zSite 11 11 3 := ⟨rfl, 82, 155, 86, "no such job", (by decide +kernel), zWd_3, (by decide +kernel), (by decide +kernel), Or.inl ⟨(by decide +kernel), (by decide +kernel), (by decide +kernel)⟩⟩
theorem zsi_11_30 : zSite 11 30 1 := ⟨rfl, 39, 184, 43, "what: 0 to 5", (by decide +kernel), zWd_1, (by decide +kernel), (by decide +kernel), Or.inl ⟨(by decide +kernel), (by decide +kernel), (by decide +kernel)⟩⟩
theorem zTh_11 : ∀ pc, zThP 11 pc (zcode 11 pc) := by
  intro pc
  show zThP 11 pc (zc_11 pc)
  unfold zc_11
  exact (zTh_nd (zTh_nd (zTh_nd (zTh_nd (zTh_nd (zTh_nd (zTh_lf (zTh_nt no_aload)) (zTh_lf (zTh_nt no_getf))) (zTh_nd (zTh_lf (zTh_nt no_iload)) (zTh_lf (zTh_nt no_callv)))) (zTh_nd (zTh_nd (zTh_lf (zTh_nt no_ifne)) (zTh_lf (zTh_thr zsi_11_11))) (zTh_nd (zTh_lf (zTh_nt no_iload)) (zTh_lf (zTh_nt no_const))))) (zTh_nd (zTh_nd (zTh_nd (zTh_lf (zTh_nt no_const)) (zTh_lf (zTh_nt no_call))) (zTh_nd (zTh_lf (zTh_nt no_ifne)) (zTh_lf (zTh_thr zsi_11_30)))) (zTh_nd (zTh_nd (zTh_lf (zTh_nt no_iload)) (zTh_lf (zTh_nt no_sw))) (zTh_nd (zTh_lf (zTh_nt no_aload)) (zTh_nd (zTh_lf (zTh_nt no_getf)) (zTh_lf (zTh_nt no_getf))))))) (zTh_nd (zTh_nd (zTh_nd (zTh_nd (zTh_lf (zTh_nt no_iload)) (zTh_lf (zTh_nt no_iald))) (zTh_nd (zTh_lf (zTh_nt no_iret)) (zTh_lf (zTh_nt no_aload)))) (zTh_nd (zTh_nd (zTh_lf (zTh_nt no_getf)) (zTh_lf (zTh_nt no_getf))) (zTh_nd (zTh_lf (zTh_nt no_iload)) (zTh_nd (zTh_lf (zTh_nt no_iald)) (zTh_lf (zTh_nt no_iret)))))) (zTh_nd (zTh_nd (zTh_nd (zTh_lf (zTh_nt no_aload)) (zTh_lf (zTh_nt no_getf))) (zTh_nd (zTh_lf (zTh_nt no_getf)) (zTh_lf (zTh_nt no_iload)))) (zTh_nd (zTh_nd (zTh_lf (zTh_nt no_iald)) (zTh_lf (zTh_nt no_iret))) (zTh_nd (zTh_lf (zTh_nt no_aload)) (zTh_nd (zTh_lf (zTh_nt no_getf)) (zTh_lf (zTh_nt no_iload)))))))) (zTh_nd (zTh_nd (zTh_nd (zTh_nd (zTh_nd (zTh_lf (zTh_nt no_callv)) (zTh_lf (zTh_nt no_iret))) (zTh_nd (zTh_lf (zTh_nt no_aload)) (zTh_lf (zTh_nt no_getf)))) (zTh_nd (zTh_nd (zTh_lf (zTh_nt no_getf)) (zTh_lf (zTh_nt no_ifeq))) (zTh_nd (zTh_lf (zTh_nt no_aload)) (zTh_nd (zTh_lf (zTh_nt no_getf)) (zTh_lf (zTh_nt no_getf)))))) (zTh_nd (zTh_nd (zTh_nd (zTh_lf (zTh_nt no_iload)) (zTh_lf (zTh_nt no_iald))) (zTh_nd (zTh_lf (zTh_nt no_ifle)) (zTh_lf (zTh_nt no_aload)))) (zTh_nd (zTh_nd (zTh_lf (zTh_nt no_getf)) (zTh_lf (zTh_nt no_iload))) (zTh_nd (zTh_lf (zTh_nt no_aload)) (zTh_nd (zTh_lf (zTh_nt no_getf)) (zTh_lf (zTh_nt no_getf))))))) (zTh_nd (zTh_nd (zTh_nd (zTh_nd (zTh_lf (zTh_nt no_callv)) (zTh_lf (zTh_nt no_goto))) (zTh_nd (zTh_lf (zTh_nt no_const)) (zTh_lf (zTh_nt no_iret)))) (zTh_nd (zTh_nd (zTh_lf (zTh_nt no_aload)) (zTh_lf (zTh_nt no_getf))) (zTh_nd (zTh_lf (zTh_nt no_getf)) (zTh_nd (zTh_lf (zTh_nt no_ifeq)) (zTh_lf (zTh_nt no_aload)))))) (zTh_nd (zTh_nd (zTh_nd (zTh_lf (zTh_nt no_getf)) (zTh_lf (zTh_nt no_iload))) (zTh_nd (zTh_lf (zTh_nt no_aload)) (zTh_lf (zTh_nt no_getf)))) (zTh_nd (zTh_nd (zTh_lf (zTh_nt no_getf)) (zTh_lf (zTh_nt no_callv))) (zTh_nd (zTh_lf (zTh_nt no_goto)) (zTh_nd (zTh_lf (zTh_nt no_const)) (zTh_lf (zTh_nt no_iret)))))))))
theorem zsi_12_12 : zSite 12 12 3 := ⟨rfl, 82, 174, 86, "no such job or operation", (by decide +kernel), zWd_3, (by decide +kernel), (by decide +kernel), Or.inl ⟨(by decide +kernel), (by decide +kernel), (by decide +kernel)⟩⟩
theorem zsi_12_31 : zSite 12 31 1 := ⟨rfl, 39, 199, 43, "what: 0 to 4", (by decide +kernel), zWd_1, (by decide +kernel), (by decide +kernel), Or.inl ⟨(by decide +kernel), (by decide +kernel), (by decide +kernel)⟩⟩
theorem zTh_12 : ∀ pc, zThP 12 pc (zcode 12 pc) := by
  intro pc
  show zThP 12 pc (zc_12 pc)
  unfold zc_12
  exact (zTh_nd (zTh_nd (zTh_nd (zTh_nd (zTh_nd (zTh_nd (zTh_lf (zTh_nt no_aload)) (zTh_lf (zTh_nt no_getf))) (zTh_nd (zTh_lf (zTh_nt no_iload)) (zTh_lf (zTh_nt no_iload)))) (zTh_nd (zTh_nd (zTh_lf (zTh_nt no_callv)) (zTh_lf (zTh_nt no_ifne))) (zTh_nd (zTh_lf (zTh_thr zsi_12_12)) (zTh_nd (zTh_lf (zTh_nt no_iload)) (zTh_lf (zTh_nt no_const)))))) (zTh_nd (zTh_nd (zTh_nd (zTh_lf (zTh_nt no_const)) (zTh_lf (zTh_nt no_call))) (zTh_nd (zTh_lf (zTh_nt no_ifne)) (zTh_lf (zTh_thr zsi_12_31)))) (zTh_nd (zTh_nd (zTh_lf (zTh_nt no_iload)) (zTh_lf (zTh_nt no_iload))) (zTh_nd (zTh_lf (zTh_nt no_call)) (zTh_nd (zTh_lf (zTh_nt no_istore)) (zTh_lf (zTh_nt no_iload))))))) (zTh_nd (zTh_nd (zTh_nd (zTh_nd (zTh_lf (zTh_nt no_ifne)) (zTh_lf (zTh_nt no_aload))) (zTh_nd (zTh_lf (zTh_nt no_getf)) (zTh_lf (zTh_nt no_getf)))) (zTh_nd (zTh_nd (zTh_lf (zTh_nt no_iload)) (zTh_lf (zTh_nt no_iald))) (zTh_nd (zTh_lf (zTh_nt no_iret)) (zTh_nd (zTh_lf (zTh_nt no_iload)) (zTh_lf (zTh_nt no_const)))))) (zTh_nd (zTh_nd (zTh_nd (zTh_lf (zTh_nt no_cne)) (zTh_lf (zTh_nt no_aload))) (zTh_nd (zTh_lf (zTh_nt no_getf)) (zTh_lf (zTh_nt no_getf)))) (zTh_nd (zTh_nd (zTh_lf (zTh_nt no_iload)) (zTh_lf (zTh_nt no_iald))) (zTh_nd (zTh_lf (zTh_nt no_iret)) (zTh_nd (zTh_lf (zTh_nt no_aload)) (zTh_lf (zTh_nt no_getf)))))))) (zTh_nd (zTh_nd (zTh_nd (zTh_nd (zTh_nd (zTh_lf (zTh_nt no_getf)) (zTh_lf (zTh_nt no_ifne))) (zTh_nd (zTh_lf (zTh_nt no_const)) (zTh_lf (zTh_nt no_iret)))) (zTh_nd (zTh_nd (zTh_lf (zTh_nt no_iload)) (zTh_lf (zTh_nt no_const))) (zTh_nd (zTh_lf (zTh_nt no_cne)) (zTh_nd (zTh_lf (zTh_nt no_aload)) (zTh_lf (zTh_nt no_getf)))))) (zTh_nd (zTh_nd (zTh_nd (zTh_lf (zTh_nt no_getf)) (zTh_lf (zTh_nt no_iload))) (zTh_nd (zTh_lf (zTh_nt no_iald)) (zTh_lf (zTh_nt no_iret)))) (zTh_nd (zTh_nd (zTh_lf (zTh_nt no_iload)) (zTh_lf (zTh_nt no_const))) (zTh_nd (zTh_lf (zTh_nt no_cne)) (zTh_nd (zTh_lf (zTh_nt no_aload)) (zTh_lf (zTh_nt no_getf))))))) (zTh_nd (zTh_nd (zTh_nd (zTh_nd (zTh_lf (zTh_nt no_getf)) (zTh_lf (zTh_nt no_iload))) (zTh_nd (zTh_lf (zTh_nt no_iald)) (zTh_lf (zTh_nt no_iret)))) (zTh_nd (zTh_nd (zTh_lf (zTh_nt no_aload)) (zTh_lf (zTh_nt no_getf))) (zTh_nd (zTh_lf (zTh_nt no_iload)) (zTh_nd (zTh_lf (zTh_nt no_aload)) (zTh_lf (zTh_nt no_getf)))))) (zTh_nd (zTh_nd (zTh_nd (zTh_lf (zTh_nt no_getf)) (zTh_lf (zTh_nt no_iload))) (zTh_nd (zTh_lf (zTh_nt no_iald)) (zTh_lf (zTh_nt no_callv)))) (zTh_nd (zTh_nd (zTh_lf (zTh_nt no_ifeq)) (zTh_lf (zTh_nt no_const))) (zTh_nd (zTh_lf (zTh_nt no_goto)) (zTh_nd (zTh_lf (zTh_nt no_const)) (zTh_lf (zTh_nt no_iret)))))))))
theorem zsi_13_11 : zSite 13 11 3 := ⟨rfl, 82, 213, 86, "no such breakdown", (by decide +kernel), zWd_3, (by decide +kernel), (by decide +kernel), Or.inl ⟨(by decide +kernel), (by decide +kernel), (by decide +kernel)⟩⟩
theorem zsi_13_30 : zSite 13 30 1 := ⟨rfl, 39, 215, 43, "what: 0 to 2", (by decide +kernel), zWd_1, (by decide +kernel), (by decide +kernel), Or.inl ⟨(by decide +kernel), (by decide +kernel), (by decide +kernel)⟩⟩
theorem zTh_13 : ∀ pc, zThP 13 pc (zcode 13 pc) := by
  intro pc
  show zThP 13 pc (zc_13 pc)
  unfold zc_13
  exact (zTh_nd (zTh_nd (zTh_nd (zTh_nd (zTh_nd (zTh_lf (zTh_nt no_aload)) (zTh_lf (zTh_nt no_getf))) (zTh_nd (zTh_lf (zTh_nt no_iload)) (zTh_lf (zTh_nt no_callv)))) (zTh_nd (zTh_nd (zTh_lf (zTh_nt no_ifne)) (zTh_lf (zTh_thr zsi_13_11))) (zTh_nd (zTh_lf (zTh_nt no_iload)) (zTh_lf (zTh_nt no_const))))) (zTh_nd (zTh_nd (zTh_nd (zTh_lf (zTh_nt no_const)) (zTh_lf (zTh_nt no_call))) (zTh_nd (zTh_lf (zTh_nt no_ifne)) (zTh_lf (zTh_thr zsi_13_30)))) (zTh_nd (zTh_nd (zTh_lf (zTh_nt no_iload)) (zTh_lf (zTh_nt no_ifne))) (zTh_nd (zTh_lf (zTh_nt no_aload)) (zTh_nd (zTh_lf (zTh_nt no_getf)) (zTh_lf (zTh_nt no_getf))))))) (zTh_nd (zTh_nd (zTh_nd (zTh_nd (zTh_lf (zTh_nt no_iload)) (zTh_lf (zTh_nt no_iald))) (zTh_nd (zTh_lf (zTh_nt no_iret)) (zTh_lf (zTh_nt no_iload)))) (zTh_nd (zTh_nd (zTh_lf (zTh_nt no_const)) (zTh_lf (zTh_nt no_cne))) (zTh_nd (zTh_lf (zTh_nt no_aload)) (zTh_nd (zTh_lf (zTh_nt no_getf)) (zTh_lf (zTh_nt no_getf)))))) (zTh_nd (zTh_nd (zTh_nd (zTh_lf (zTh_nt no_iload)) (zTh_lf (zTh_nt no_iald))) (zTh_nd (zTh_lf (zTh_nt no_iret)) (zTh_lf (zTh_nt no_aload)))) (zTh_nd (zTh_nd (zTh_lf (zTh_nt no_getf)) (zTh_lf (zTh_nt no_getf))) (zTh_nd (zTh_lf (zTh_nt no_iload)) (zTh_nd (zTh_lf (zTh_nt no_iald)) (zTh_lf (zTh_nt no_iret))))))))
theorem zsi_14_10 : zSite 14 10 1 := ⟨rfl, 39, 226, 43, "what: 0 to 9", (by decide +kernel), zWd_1, (by decide +kernel), (by decide +kernel), Or.inl ⟨(by decide +kernel), (by decide +kernel), (by decide +kernel)⟩⟩
theorem zTh_14 : ∀ pc, zThP 14 pc (zcode 14 pc) := by
  intro pc
  show zThP 14 pc (zc_14 pc)
  unfold zc_14
  exact (zTh_nd (zTh_nd (zTh_nd (zTh_nd (zTh_nd (zTh_lf (zTh_nt no_iload)) (zTh_lf (zTh_nt no_const))) (zTh_nd (zTh_lf (zTh_nt no_const)) (zTh_nd (zTh_lf (zTh_nt no_call)) (zTh_lf (zTh_nt no_ifne))))) (zTh_nd (zTh_nd (zTh_lf (zTh_thr zsi_14_10)) (zTh_nd (zTh_lf (zTh_nt no_iload)) (zTh_lf (zTh_nt no_sw)))) (zTh_nd (zTh_lf (zTh_nt no_aload)) (zTh_nd (zTh_lf (zTh_nt no_getf)) (zTh_lf (zTh_nt no_getf)))))) (zTh_nd (zTh_nd (zTh_nd (zTh_lf (zTh_nt no_iret)) (zTh_nd (zTh_lf (zTh_nt no_aload)) (zTh_lf (zTh_nt no_getf)))) (zTh_nd (zTh_lf (zTh_nt no_getf)) (zTh_nd (zTh_lf (zTh_nt no_iret)) (zTh_lf (zTh_nt no_aload))))) (zTh_nd (zTh_nd (zTh_lf (zTh_nt no_getf)) (zTh_nd (zTh_lf (zTh_nt no_callv)) (zTh_lf (zTh_nt no_iret)))) (zTh_nd (zTh_lf (zTh_nt no_aload)) (zTh_nd (zTh_lf (zTh_nt no_getf)) (zTh_lf (zTh_nt no_getf))))))) (zTh_nd (zTh_nd (zTh_nd (zTh_nd (zTh_lf (zTh_nt no_iret)) (zTh_lf (zTh_nt no_aload))) (zTh_nd (zTh_lf (zTh_nt no_getf)) (zTh_nd (zTh_lf (zTh_nt no_getf)) (zTh_lf (zTh_nt no_ifeq))))) (zTh_nd (zTh_nd (zTh_lf (zTh_nt no_const)) (zTh_nd (zTh_lf (zTh_nt no_goto)) (zTh_lf (zTh_nt no_const)))) (zTh_nd (zTh_lf (zTh_nt no_iret)) (zTh_nd (zTh_lf (zTh_nt no_aload)) (zTh_lf (zTh_nt no_getf)))))) (zTh_nd (zTh_nd (zTh_nd (zTh_lf (zTh_nt no_getf)) (zTh_nd (zTh_lf (zTh_nt no_iret)) (zTh_lf (zTh_nt no_aload)))) (zTh_nd (zTh_lf (zTh_nt no_getf)) (zTh_nd (zTh_lf (zTh_nt no_getf)) (zTh_lf (zTh_nt no_ifeq))))) (zTh_nd (zTh_nd (zTh_lf (zTh_nt no_aload)) (zTh_nd (zTh_lf (zTh_nt no_iload)) (zTh_lf (zTh_nt no_callv)))) (zTh_nd (zTh_lf (zTh_nt no_goto)) (zTh_nd (zTh_lf (zTh_nt no_const)) (zTh_lf (zTh_nt no_iret))))))))
theorem zsi_16_15 : zSite 16 15 3 := ⟨rfl, 82, 240, 86, "no such machine, or a negative place", (by decide +kernel), zWd_3, (by decide +kernel), (by decide +kernel), Or.inl ⟨(by decide +kernel), (by decide +kernel), (by decide +kernel)⟩⟩
theorem zTh_16 : ∀ pc, zThP 16 pc (zcode 16 pc) := by
  intro pc
  show zThP 16 pc (zc_16 pc)
  unfold zc_16
  exact (zTh_nd (zTh_nd (zTh_nd (zTh_nd (zTh_lf (zTh_nt no_aload)) (zTh_lf (zTh_nt no_getf))) (zTh_nd (zTh_lf (zTh_nt no_iload)) (zTh_nd (zTh_lf (zTh_nt no_callv)) (zTh_lf (zTh_nt no_ifeq))))) (zTh_nd (zTh_nd (zTh_lf (zTh_nt no_iload)) (zTh_lf (zTh_nt no_ifge))) (zTh_nd (zTh_lf (zTh_thr zsi_16_15)) (zTh_nd (zTh_lf (zTh_nt no_aload)) (zTh_lf (zTh_nt no_getf)))))) (zTh_nd (zTh_nd (zTh_nd (zTh_lf (zTh_nt no_getf)) (zTh_lf (zTh_nt no_ifeq))) (zTh_nd (zTh_lf (zTh_nt no_aload)) (zTh_nd (zTh_lf (zTh_nt no_getf)) (zTh_lf (zTh_nt no_iload))))) (zTh_nd (zTh_nd (zTh_lf (zTh_nt no_iload)) (zTh_lf (zTh_nt no_callv))) (zTh_nd (zTh_lf (zTh_nt no_goto)) (zTh_nd (zTh_lf (zTh_nt no_const)) (zTh_lf (zTh_nt no_iret)))))))
theorem zsi_17_7 : zSite 17 7 1 := ⟨rfl, 39, 118, 43, "rule: 0 to 3", (by decide +kernel), zWd_1, (by decide +kernel), (by decide +kernel), Or.inl ⟨(by decide +kernel), (by decide +kernel), (by decide +kernel)⟩⟩
theorem zTh_17 : ∀ pc, zThP 17 pc (zcode 17 pc) := by
  intro pc
  show zThP 17 pc (zc_17 pc)
  unfold zc_17
  exact (zTh_nd (zTh_nd (zTh_nd (zTh_lf (zTh_nt no_iload)) (zTh_lf (zTh_nt no_call))) (zTh_nd (zTh_lf (zTh_nt no_ifne)) (zTh_lf (zTh_thr zsi_17_7)))) (zTh_nd (zTh_nd (zTh_lf (zTh_nt no_aload)) (zTh_lf (zTh_nt no_getf))) (zTh_nd (zTh_lf (zTh_nt no_iload)) (zTh_nd (zTh_lf (zTh_nt no_callv)) (zTh_lf (zTh_nt no_iret))))))
theorem zsi_20_11 : zSite 20 11 1 := ⟨rfl, 39, 251, 43, "moment: 0 to 999", (by decide +kernel), zWd_1, (by decide +kernel), (by decide +kernel), Or.inl ⟨(by decide +kernel), (by decide +kernel), (by decide +kernel)⟩⟩
theorem zTh_20 : ∀ pc, zThP 20 pc (zcode 20 pc) := by
  intro pc
  show zThP 20 pc (zc_20 pc)
  unfold zc_20
  exact (zTh_nd (zTh_nd (zTh_nd (zTh_nd (zTh_nd (zTh_lf (zTh_nt no_iload)) (zTh_nd (zTh_lf (zTh_nt no_const)) (zTh_lf (zTh_nt no_const)))) (zTh_nd (zTh_lf (zTh_nt no_call)) (zTh_nd (zTh_lf (zTh_nt no_ifne)) (zTh_lf (zTh_thr zsi_20_11))))) (zTh_nd (zTh_nd (zTh_lf (zTh_nt no_aload)) (zTh_nd (zTh_lf (zTh_nt no_getf)) (zTh_lf (zTh_nt no_getf)))) (zTh_nd (zTh_lf (zTh_nt no_ifne)) (zTh_nd (zTh_lf (zTh_nt no_const)) (zTh_lf (zTh_nt no_iret)))))) (zTh_nd (zTh_nd (zTh_nd (zTh_lf (zTh_nt no_const)) (zTh_nd (zTh_lf (zTh_nt no_istore)) (zTh_lf (zTh_nt no_aload)))) (zTh_nd (zTh_lf (zTh_nt no_getf)) (zTh_nd (zTh_lf (zTh_nt no_iload)) (zTh_lf (zTh_nt no_const))))) (zTh_nd (zTh_nd (zTh_lf (zTh_nt no_callv)) (zTh_nd (zTh_lf (zTh_nt no_istore)) (zTh_lf (zTh_nt no_const)))) (zTh_nd (zTh_lf (zTh_nt no_istore)) (zTh_nd (zTh_lf (zTh_nt no_iload)) (zTh_lf (zTh_nt no_const))))))) (zTh_nd (zTh_nd (zTh_nd (zTh_nd (zTh_lf (zTh_nt no_cgt)) (zTh_nd (zTh_lf (zTh_nt no_aload)) (zTh_lf (zTh_nt no_getf)))) (zTh_nd (zTh_lf (zTh_nt no_iload)) (zTh_nd (zTh_lf (zTh_nt no_iload)) (zTh_lf (zTh_nt no_callv))))) (zTh_nd (zTh_nd (zTh_lf (zTh_nt no_istore)) (zTh_nd (zTh_lf (zTh_nt no_iload)) (zTh_lf (zTh_nt no_iload)))) (zTh_nd (zTh_lf (zTh_nt no_cge)) (zTh_nd (zTh_lf (zTh_nt no_iload)) (zTh_lf (zTh_nt no_istore)))))) (zTh_nd (zTh_nd (zTh_nd (zTh_lf (zTh_nt no_iload)) (zTh_nd (zTh_lf (zTh_nt no_istore)) (zTh_lf (zTh_nt no_iinc)))) (zTh_nd (zTh_lf (zTh_nt no_goto)) (zTh_nd (zTh_lf (zTh_nt no_const)) (zTh_lf (zTh_nt no_iload))))) (zTh_nd (zTh_nd (zTh_lf (zTh_nt no_imul)) (zTh_nd (zTh_lf (zTh_nt no_iload)) (zTh_lf (zTh_nt no_const)))) (zTh_nd (zTh_lf (zTh_nt no_min)) (zTh_nd (zTh_lf (zTh_nt no_iadd)) (zTh_lf (zTh_nt no_iret))))))))
theorem zsi_21_7 : zSite 21 7 1 := ⟨rfl, 39, 118, 43, "rule: 0 to 3", (by decide +kernel), zWd_1, (by decide +kernel), (by decide +kernel), Or.inl ⟨(by decide +kernel), (by decide +kernel), (by decide +kernel)⟩⟩
theorem zTh_21 : ∀ pc, zThP 21 pc (zcode 21 pc) := by
  intro pc
  show zThP 21 pc (zc_21 pc)
  unfold zc_21
  exact (zTh_nd (zTh_nd (zTh_nd (zTh_nd (zTh_nd (zTh_lf (zTh_nt no_iload)) (zTh_nd (zTh_lf (zTh_nt no_call)) (zTh_lf (zTh_nt no_ifne)))) (zTh_nd (zTh_lf (zTh_thr zsi_21_7)) (zTh_nd (zTh_lf (zTh_nt no_const)) (zTh_lf (zTh_nt no_istore))))) (zTh_nd (zTh_nd (zTh_lf (zTh_nt no_aload)) (zTh_nd (zTh_lf (zTh_nt no_getf)) (zTh_lf (zTh_nt no_iload)))) (zTh_nd (zTh_lf (zTh_nt no_callv)) (zTh_nd (zTh_lf (zTh_nt no_istore)) (zTh_lf (zTh_nt no_const)))))) (zTh_nd (zTh_nd (zTh_nd (zTh_lf (zTh_nt no_istore)) (zTh_nd (zTh_lf (zTh_nt no_iload)) (zTh_lf (zTh_nt no_aload)))) (zTh_nd (zTh_lf (zTh_nt no_getf)) (zTh_nd (zTh_lf (zTh_nt no_getf)) (zTh_lf (zTh_nt no_cge))))) (zTh_nd (zTh_nd (zTh_lf (zTh_nt no_const)) (zTh_nd (zTh_lf (zTh_nt no_istore)) (zTh_lf (zTh_nt no_iload)))) (zTh_nd (zTh_nd (zTh_lf (zTh_nt no_aload)) (zTh_lf (zTh_nt no_getf))) (zTh_nd (zTh_lf (zTh_nt no_getf)) (zTh_lf (zTh_nt no_iload))))))) (zTh_nd (zTh_nd (zTh_nd (zTh_nd (zTh_lf (zTh_nt no_iald)) (zTh_nd (zTh_lf (zTh_nt no_cge)) (zTh_lf (zTh_nt no_aload)))) (zTh_nd (zTh_lf (zTh_nt no_iload)) (zTh_nd (zTh_lf (zTh_nt no_iload)) (zTh_lf (zTh_nt no_call))))) (zTh_nd (zTh_nd (zTh_lf (zTh_nt no_iload)) (zTh_nd (zTh_lf (zTh_nt no_callv)) (zTh_lf (zTh_nt no_istore)))) (zTh_nd (zTh_nd (zTh_lf (zTh_nt no_iload)) (zTh_lf (zTh_nt no_iload))) (zTh_nd (zTh_lf (zTh_nt no_cge)) (zTh_lf (zTh_nt no_const)))))) (zTh_nd (zTh_nd (zTh_nd (zTh_lf (zTh_nt no_iload)) (zTh_nd (zTh_lf (zTh_nt no_imul)) (zTh_lf (zTh_nt no_iload)))) (zTh_nd (zTh_lf (zTh_nt no_iadd)) (zTh_nd (zTh_lf (zTh_nt no_istore)) (zTh_lf (zTh_nt no_iload))))) (zTh_nd (zTh_nd (zTh_lf (zTh_nt no_istore)) (zTh_nd (zTh_lf (zTh_nt no_iinc)) (zTh_lf (zTh_nt no_goto)))) (zTh_nd (zTh_nd (zTh_lf (zTh_nt no_iinc)) (zTh_lf (zTh_nt no_goto))) (zTh_nd (zTh_lf (zTh_nt no_iload)) (zTh_lf (zTh_nt no_iret))))))))
theorem zsi_22_10 : zSite 22 10 1 := ⟨rfl, 39, 272, 43, "value: 0 to 127", (by decide +kernel), zWd_1, (by decide +kernel), (by decide +kernel), Or.inr ⟨(by decide +kernel), (by decide +kernel), (by decide +kernel)⟩⟩
theorem zsi_22_33 : zSite 22 33 2 := ⟨rfl, 66, 277, 70, "the text has 100 bytes", (by decide +kernel), zWd_2, (by decide +kernel), (by decide +kernel), Or.inr ⟨(by decide +kernel), (by decide +kernel), (by decide +kernel)⟩⟩
theorem zTh_22 : ∀ pc, zThP 22 pc (zcode 22 pc) := by
  intro pc
  show zThP 22 pc (zc_22 pc)
  unfold zc_22
  exact (zTh_nd (zTh_nd (zTh_nd (zTh_nd (zTh_lf (zTh_nt no_iload)) (zTh_nd (zTh_lf (zTh_nt no_const)) (zTh_lf (zTh_nt no_const)))) (zTh_nd (zTh_nd (zTh_lf (zTh_nt no_call)) (zTh_lf (zTh_nt no_ifne))) (zTh_nd (zTh_lf (zTh_thr zsi_22_10)) (zTh_lf (zTh_nt no_aload))))) (zTh_nd (zTh_nd (zTh_nd (zTh_lf (zTh_nt no_getf)) (zTh_lf (zTh_nt no_getf))) (zTh_nd (zTh_lf (zTh_nt no_const)) (zTh_lf (zTh_nt no_clt)))) (zTh_nd (zTh_nd (zTh_lf (zTh_thr zsi_22_33)) (zTh_lf (zTh_nt no_aload))) (zTh_nd (zTh_lf (zTh_nt no_getf)) (zTh_lf (zTh_nt no_getf)))))) (zTh_nd (zTh_nd (zTh_nd (zTh_nd (zTh_lf (zTh_nt no_aload)) (zTh_lf (zTh_nt no_getf))) (zTh_nd (zTh_lf (zTh_nt no_getf)) (zTh_lf (zTh_nt no_iload)))) (zTh_nd (zTh_nd (zTh_lf (zTh_nt no_iast)) (zTh_lf (zTh_nt no_aload))) (zTh_nd (zTh_lf (zTh_nt no_getf)) (zTh_lf (zTh_nt no_dup))))) (zTh_nd (zTh_nd (zTh_nd (zTh_lf (zTh_nt no_getf)) (zTh_lf (zTh_nt no_const))) (zTh_nd (zTh_lf (zTh_nt no_iadd)) (zTh_lf (zTh_nt no_putf)))) (zTh_nd (zTh_nd (zTh_lf (zTh_nt no_aload)) (zTh_lf (zTh_nt no_getf))) (zTh_nd (zTh_lf (zTh_nt no_getf)) (zTh_lf (zTh_nt no_iret)))))))
theorem zsi_25_10 : zSite 25 10 2 := ⟨rfl, 66, 297, 70, "there is no saved state", (by decide +kernel), zWd_2, (by decide +kernel), (by decide +kernel), Or.inr ⟨(by decide +kernel), (by decide +kernel), (by decide +kernel)⟩⟩
theorem zTh_25 : ∀ pc, zThP 25 pc (zcode 25 pc) := by
  intro pc
  show zThP 25 pc (zc_25 pc)
  unfold zc_25
  exact (zTh_nd (zTh_nd (zTh_nd (zTh_lf (zTh_nt no_aload)) (zTh_nd (zTh_lf (zTh_nt no_getf)) (zTh_lf (zTh_nt no_getf)))) (zTh_nd (zTh_nd (zTh_lf (zTh_nt no_ifne)) (zTh_lf (zTh_thr zsi_25_10))) (zTh_nd (zTh_lf (zTh_nt no_aload)) (zTh_lf (zTh_nt no_getf))))) (zTh_nd (zTh_nd (zTh_lf (zTh_nt no_aload)) (zTh_nd (zTh_lf (zTh_nt no_getf)) (zTh_lf (zTh_nt no_callv)))) (zTh_nd (zTh_nd (zTh_lf (zTh_nt no_aload)) (zTh_lf (zTh_nt no_getf))) (zTh_nd (zTh_lf (zTh_nt no_getf)) (zTh_lf (zTh_nt no_iret))))))
