/-! ===== 28: rows changed over all live operations; lateness ===== -/
/-- component q (0 machine, 1 duration, 2 old, 3 present) of the live operations before (j, o) becomes g -/
def mapB (S : Row) (q : Nat) (g : Nat → Nat → Int) (j o : Nat) : Row := fun k =>
  if 23 + q ≤ k ∧ k < 143 + q ∧ (k - (23 + q)) % 4 = 0 ∧ ((((k - (23 + q)) / 4 / 5 : Nat) : Int) < S 1 ∧ (((k - (23 + q)) / 4 % 5 : Nat) : Int) < rO S ((k - (23 + q)) / 4 / 5)) ∧ ((k - (23 + q)) / 4 / 5 < j ∨ ((k - (23 + q)) / 4 / 5 = j ∧ (k - (23 + q)) / 4 % 5 < o)) then g ((k - (23 + q)) / 4 / 5) ((k - (23 + q)) / 4 % 5) else S k
def mapS (S : Row) (q : Nat) (g : Nat → Nat → Int) : Row := mapB S q g (nJ S) 0
theorem mapB_0 {S : Row} {q : Nat} {g : Nat → Nat → Int} : mapB S q g 0 0 = S := by
  funext k
  unfold mapB
  rw [if_neg (fun h => by have := h.2.2.2.2; omega)]
theorem mapB_off {S : Row} {q : Nat} {g : Nat → Nat → Int} {j o k : Nat} (h : k < 23 + q ∨ 143 + q ≤ k ∨ (k - (23 + q)) % 4 ≠ 0) : mapB S q g j o k = S k := by
  unfold mapB
  rw [if_neg (fun h2 => by omega)]
theorem mapB_at {S : Row} {q : Nat} {g : Nat → Nat → Int} {j o j' o' : Nat} (hj : j' < 6) (ho : o' < 5) : mapB S q g j o (23 + q + 4 * (5 * j' + o')) = (if ((j' : Int) < S 1 ∧ (o' : Int) < rO S j') ∧ (j' < j ∨ (j' = j ∧ o' < o)) then g j' o' else S (23 + q + 4 * (5 * j' + o'))) := by
  unfold mapB
  have e1 : (23 + q + 4 * (5 * j' + o') - (23 + q)) / 4 / 5 = j' := by omega
  have e2 : (23 + q + 4 * (5 * j' + o') - (23 + q)) / 4 % 5 = o' := by omega
  rw [e1, e2]
  by_cases c : ((j' : Int) < S 1 ∧ (o' : Int) < rO S j') ∧ (j' < j ∨ (j' = j ∧ o' < o))
  · rw [if_pos c, if_pos ⟨by omega, by omega, by omega, c.1, c.2⟩]
  · rw [if_neg c, if_neg (fun h => c ⟨h.2.2.2.1, h.2.2.2.2⟩)]
theorem mapB_step {S : Row} {q : Nat} {g : Nat → Nat → Int} {j o : Nat} (hG : Good S) (hl : Live S j o) : rset (mapB S q g j o) (23 + q + 4 * (5 * j + o)) (g j o) = mapB S q g j (o + 1) := by
  have hj := hG.j6 hl.1
  have ho := hG.o5 hl
  funext k
  unfold rset
  by_cases e : k = 23 + q + 4 * (5 * j + o)
  · subst e
    rw [if_pos rfl, mapB_at hj ho, if_pos ⟨hl, by omega⟩]
  · rw [if_neg e]
    unfold mapB
    by_cases c : 23 + q ≤ k ∧ k < 143 + q ∧ (k - (23 + q)) % 4 = 0 ∧ ((((k - (23 + q)) / 4 / 5 : Nat) : Int) < S 1 ∧ (((k - (23 + q)) / 4 % 5 : Nat) : Int) < rO S ((k - (23 + q)) / 4 / 5)) ∧ ((k - (23 + q)) / 4 / 5 < j ∨ ((k - (23 + q)) / 4 / 5 = j ∧ (k - (23 + q)) / 4 % 5 < o))
    · rw [if_pos c, if_pos ⟨c.1, c.2.1, c.2.2.1, c.2.2.2.1, by have := c.2.2.2.2; omega⟩]
    · rw [if_neg c, if_neg (fun h => c ⟨h.1, h.2.1, h.2.2.1, h.2.2.2.1, by
        obtain ⟨h1, h2, h3, h4, h5⟩ := h
        rcases h5 with h5 | ⟨h5, h6⟩
        · exact Or.inl h5
        · refine Or.inr ⟨h5, ?_⟩
          refine Decidable.byContradiction (fun h7 => e ?_)
          have h8 : (k - (23 + q)) / 4 % 5 = o := by omega
          omega⟩)]
theorem mapB_row {S : Row} {q : Nat} {g : Nat → Nat → Int} {j : Nat} : mapB S q g j (nO S j) = mapB S q g (j + 1) 0 := by
  funext k
  unfold mapB
  have e : ((((k - (23 + q)) / 4 / 5 : Nat) : Int) < S 1 ∧ (((k - (23 + q)) / 4 % 5 : Nat) : Int) < rO S ((k - (23 + q)) / 4 / 5)) → (((k - (23 + q)) / 4 / 5 < j ∨ ((k - (23 + q)) / 4 / 5 = j ∧ (k - (23 + q)) / 4 % 5 < nO S j)) ↔ ((k - (23 + q)) / 4 / 5 < j + 1 ∨ ((k - (23 + q)) / 4 / 5 = j + 1 ∧ (k - (23 + q)) / 4 % 5 < 0))) := by
    intro h
    constructor
    · intro h2; omega
    · intro h2
      by_cases c : (k - (23 + q)) / 4 / 5 = j
      · have := h.2
        rw [c] at this
        exact Or.inr ⟨c, nO_lt.mpr this⟩
      · exact Or.inl (by omega)
  by_cases c : 23 + q ≤ k ∧ k < 143 + q ∧ (k - (23 + q)) % 4 = 0 ∧ ((((k - (23 + q)) / 4 / 5 : Nat) : Int) < S 1 ∧ (((k - (23 + q)) / 4 % 5 : Nat) : Int) < rO S ((k - (23 + q)) / 4 / 5)) ∧ ((k - (23 + q)) / 4 / 5 < j ∨ ((k - (23 + q)) / 4 / 5 = j ∧ (k - (23 + q)) / 4 % 5 < nO S j))
  · rw [if_pos c, if_pos ⟨c.1, c.2.1, c.2.2.1, c.2.2.2.1, (e c.2.2.2.1).mp c.2.2.2.2⟩]
  · rw [if_neg c, if_neg (fun h => c ⟨h.1, h.2.1, h.2.2.1, h.2.2.2.1, (e h.2.2.2.1).mpr h.2.2.2.2⟩)]
theorem mapS_live {S : Row} {q : Nat} {g : Nat → Nat → Int} {j o : Nat} (hG : Good S) (hl : Live S j o) : mapS S q g (23 + q + 4 * (5 * j + o)) = g j o := by
  unfold mapS
  rw [mapB_at (hG.j6 hl.1) (hG.o5 hl), if_pos ⟨hl, Or.inl (nJ_lt.mpr hl.1)⟩]
theorem mapB_sta {S : Row} {q : Nat} {g : Nat → Nat → Int} {j o : Nat} (hq : q = 2 ∨ q = 3) : Sta S (mapB S q g j o) := fun k hk => mapB_off (by omega)
theorem mapB_staP {S : Row} {g : Nat → Nat → Int} {j o : Nat} : StaP S (mapB S 3 g j o) := fun k hk => mapB_off (by omega)
/-- a job's lateness by component p -/
def lt (S : Row) (p j : Nat) : Int := if rO S j = 0 then 0 else max 0 (zw (zw (S (23 + p + 4 * (5 * j + (nO S j - 1))) + sU S (5 * j + (nO S j - 1))) - rD S j))
def ltS (S : Row) (p : Nat) : Int := f1 (fun j a => zw (a + zw (rW S j * lt S p j))) (nJ S) 0
/-- how many live operations differ in two components -/
def dif (S : Row) (p q : Nat) : Int := fA S (fun j o a => if S (23 + p + 4 * (5 * j + o)) = S (23 + q + 4 * (5 * j + o)) then a else a + 1) 0
/-- component p over component q -/
def cpS (S : Row) (p q : Nat) : Row := mapS S q (fun j o => S (23 + p + 4 * (5 * j + o)))
