/-! ===== 02c: usage as one step: what its contract gives ===== -/
abbrev zRu : Room := { frames := 5, cells := 0, slots := 0, locals := 160 }
abbrev zPre (D : va_G) (A : Nat → Nat) (cI cQ : ClassId) (sz : Nat) (σ : zSt) (U : State) : Prop := U.heap.size = sz ∧ va_P D zcls (zW A cI cQ σ) U.heap ∧ va_K D zcls (ztys cI cQ) U ∧ va_D (fun _ => True) (zW A cI cQ σ) ∧ zNst U
def zDPost (D : va_G) (A : Nat → Nat) (cI cQ : ClassId) (sz : Nat) (σ : zSt) (r : UInt64) : Array Value → State → Outcome → State → Prop := fun _ st oc t =>
  (oc = .returned (some (.double r)) ∧ va_P D zcls (zW A cI cQ σ) t.heap ∧ va_D (va_A (zW A cI cQ σ) sz) (zW A cI cQ σ)) ∧ va_F (va_A (zW A cI cQ σ) sz) st t
/-- usage over the ints σ answers r -/
def zDCon (l : Launch) (σ : zSt) (r : UInt64) : Prop :=
  ∀ (D : va_G) (A : Nat → Nat) (cI cQ : ClassId) (sz : Nat), Met l yX4_usage (Cond.code yX4_usage cX4_usage 2 (some .double) :: zWL) zRu (va_Pc [.ref (A 0)] (zPre D A cI cQ sz σ)) (zDPost D A cI cQ sz σ r) 0 0 (va_A (zW A cI cQ σ) sz)
def zUok (σ : zSt) (r : UInt64) : Prop := zoks σ → ∀ l : Launch, zDCon l σ r
/-- the law's own double, and that it is a number -/
def zUd (sum most : Int) : UInt64 := FP.ddiv (FP.i2d (Int32.ofInt sum)) (FP.i2d (Int32.ofInt (3 * most)))
def zUq (σ : zSt) (most all sum : Int) : Prop := (all = 0 ∧ zUok σ FP.dconst0) ∨ (all ≠ 0 ∧ zUok σ (zUd sum most) ∧ vf_n64 (zUd sum most))
noncomputable def zgc (g : Prop) (x : Option zOut) : Option zOut := @ite _ g (Classical.propDecidable g) x none
theorem zgc_pos {g : Prop} {x : Option zOut} (h : g) : zgc g x = x := if_pos h
def zat0 (ls : zLc) (i : Nat) : Option zVal := match ls[i]? with
  | some v => v
  | none => none
theorem zat0_at {ls : zLc} {i : Nat} {v : zVal} (h : zat0 ls i = some v) : ls[i]? = some (some v) := by
  unfold zat0 at h
  cases e : ls[i]? with
  | none => rw [e] at h; cases h
  | some w => rw [e] at h; rw [← h]
noncomputable def o_us0 (nx : Nat) : zOp := fun ls st σ => match st, zat0 ls 0 with
  | [], some (.inr (.inl 0)) => @ite _ (zUok σ FP.dconst0) (Classical.propDecidable _) (zGo nx ls [] σ) none
  | _, _ => none
noncomputable def o_us1 (nx : Nat) : zOp := fun ls st σ => match st, zat0 ls 0, zat0 ls 6, zat0 ls 8, zat0 ls 9 with
  | [], some (.inr (.inl 0)), some (.inl most), some (.inl all), some (.inl sum) => @ite _ (zUq σ most all sum) (Classical.propDecidable _) (zGo nx ls [] σ) none
  | _, _, _, _, _ => none
