/-! ===== 29: the model's plans: makePlan, planAnew, and what-ifs by a kept copy ===== -/
def clrS (S : Row) : Row := mapS S 3 (fun _ _ => -1)
theorem clrS_staP (S : Row) : StaP S (clrS S) := by
  unfold clrS mapS
  exact mapB_staP
theorem clrS_clr {S : Row} (hG : Good S) : Clr (clrS S) := by
  intro j o hl
  have h := mapS_live (S := S) (q := 3) (g := fun _ _ => -1) hG (((clrS_staP S).sta.live hG j o).mp hl)
  unfold sP clrS
  exact h
/-- the row behind a new plan by a rule -/
noncomputable def mpS (S : Row) (rule : Int) : Row := rset (cpS (fillM rule 0 30 (clrS S)) 3 2) 3 1
theorem fill0_ok {S : Row} (hG : Good S) (rule : Int) : PB (fillM rule 0 30 (clrS S)) 1150 ∧ StaP S (fillM rule 0 30 (clrS S)) ∧ ∀ j, j < nJ S → nxt (fillM rule 0 30 (clrS S)) j = nO S j := by
  have st := (clrS_staP S).sta
  have hcl := clrS_clr hG
  obtain ⟨h1, h2, h3⟩ := fillM_ok (S := clrS S) (st.good hG) (B := 550) (fun j o hl => by rw [hcl j o hl]; omega) (rule := rule) (moment := 0) (by omega) (by omega)
  exact ⟨h1, (clrS_staP S).trans h2, fun j hj => by
    rw [h3 j (by rw [st.nj]; exact hj), st.no (hG.j6 (nJ_lt.mp hj))]⟩
/-- what a plan made anew keeps -/
def kq (S : Row) (moment : Int) (j o : Nat) : Prop := sP S (5 * j + o) < moment ∧ ¬ Hits S (5 * j + o) (sP S (5 * j + o))
noncomputable def kpA (S : Row) (moment : Int) (j : Nat) : Nat → Nat → Nat
  | 0, o => o
  | d + 1, o => @ite _ (kq S moment j o) (Classical.propDecidable _) (kpA S moment j d (o + 1)) o
noncomputable def kp (S : Row) (moment : Int) (j : Nat) : Nat := kpA S moment j (nO S j) 0
theorem kpA_spec {S : Row} {moment : Int} {j : Nat} : ∀ (d o : Nat), o + d = nO S j → (∀ o', o' < o → kq S moment j o') → (kpA S moment j d o ≤ nO S j ∧ (∀ o', o' < kpA S moment j d o → kq S moment j o') ∧ (kpA S moment j d o < nO S j → ¬ kq S moment j (kpA S moment j d o)))
  | 0, o, h, h1 => ⟨by show o ≤ _; omega, h1, fun q => absurd q (by show ¬ o < _; omega)⟩
  | d + 1, o, h, h1 => by
    unfold kpA
    by_cases c : kq S moment j o
    · rw [if_pos c]
      exact kpA_spec d (o + 1) (by omega) (fun o' ho' => by
        by_cases e : o' = o
        · rw [e]; exact c
        · exact h1 o' (by omega))
    · rw [if_neg c]; exact ⟨by omega, h1, fun _ => c⟩
theorem kp_spec (S : Row) (moment : Int) (j : Nat) : kp S moment j ≤ nO S j ∧ (∀ o', o' < kp S moment j → kq S moment j o') ∧ (kp S moment j < nO S j → ¬ kq S moment j (kp S moment j)) := kpA_spec _ _ (by omega) (fun _ h => by omega)
noncomputable def kpS (S : Row) (moment : Int) : Row := mapS S 3 (fun j o => if o < kp S moment j then sP S (5 * j + o) else -1)
noncomputable def paS (S : Row) (moment rule : Int) : Row := fillM rule moment 30 (kpS S moment)
/-- the present starts are starts -/
def PP (S : Row) (B : Int) : Prop := ∀ j o, Live S j o → 0 ≤ sP S (5 * j + o) ∧ sP S (5 * j + o) ≤ B
theorem kpS_staP (S : Row) (moment : Int) : StaP S (kpS S moment) := by
  unfold kpS mapS
  exact mapB_staP
theorem kpS_live {S : Row} (hG : Good S) {moment : Int} {j o : Nat} (hl : Live S j o) : sP (kpS S moment) (5 * j + o) = if o < kp S moment j then sP S (5 * j + o) else -1 := by
  have h := mapS_live (S := S) (q := 3) (g := fun j o => if o < kp S moment j then sP S (5 * j + o) else -1) hG hl
  exact h
theorem kpS_pb {S : Row} (hG : Good S) {B : Int} (hP : PP S B) (moment : Int) (hB : 0 ≤ B) : PB (kpS S moment) B := by
  intro j o hl
  have hl2 := ((kpS_staP S moment).sta.live hG j o).mp hl
  rw [kpS_live hG hl2]
  have := hP j o hl2
  split <;> omega
