/-! ===== 28: rows changed over all live operations; lateness ===== -/
/-- component q (0 machine, 1 duration, 2 old, 3 present) of the live operations before (j, o) becomes g -/
def mapB (S : Row) (q : Nat) (g : Nat → Nat → Int) (j o : Nat) : Row := fun k =>
  if 23 + q ≤ k ∧ k < 143 + q ∧ (k - (23 + q)) % 4 = 0 ∧ ((((k - (23 + q)) / 4 / 5 : Nat) : Int) < S 1 ∧ (((k - (23 + q)) / 4 % 5 : Nat) : Int) < rO S ((k - (23 + q)) / 4 / 5)) ∧ ((k - (23 + q)) / 4 / 5 < j ∨ ((k - (23 + q)) / 4 / 5 = j ∧ (k - (23 + q)) / 4 % 5 < o)) then g ((k - (23 + q)) / 4 / 5) ((k - (23 + q)) / 4 % 5) else S k
def mapS (S : Row) (q : Nat) (g : Nat → Nat → Int) : Row := mapB S q g (nJ S) 0
theorem mapB_0 {S : Row} {q : Nat} {g : Nat → Nat → Int} : mapB S q g 0 0 = S := by
  funext k
  unfold mapB
  rw [if_neg (fun h => by have := h.2.2.2.2; omega)]
theorem mapB_off {S : Row} {q : Nat} {g : Nat → Nat → Int} {j o k : Nat} (h : k < 23 + q ∨ 143 + q ≤ k ∨ (k - (23 + q)) % 4 ≠ 0) : mapB S q g j o k = S k := by
  unfold mapB
  rw [if_neg (fun h2 => by omega)]
theorem mapB_at {S : Row} {q : Nat} {g : Nat → Nat → Int} {j o j' o' : Nat} (hj : j' < 6) (ho : o' < 5) : mapB S q g j o (23 + q + 4 * (5 * j' + o')) = (if ((j' : Int) < S 1 ∧ (o' : Int) < rO S j') ∧ (j' < j ∨ (j' = j ∧ o' < o)) then g j' o' else S (23 + q + 4 * (5 * j' + o'))) := by
  unfold mapB
  have e1 : (23 + q + 4 * (5 * j' + o') - (23 + q)) / 4 / 5 = j' := by omega
  have e2 : (23 + q + 4 * (5 * j' + o') - (23 + q)) / 4 % 5 = o' := by omega
  rw [e1, e2]
  by_cases c : ((j' : Int) < S 1 ∧ (o' : Int) < rO S j') ∧ (j' < j ∨ (j' = j ∧ o' < o))
  · rw [if_pos c, if_pos ⟨by omega, by omega, by omega, c.1, c.2⟩]
  · rw [if_neg c, if_neg (fun h => c ⟨h.2.2.2.1, h.2.2.2.2⟩)]
theorem mapB_step {S : Row} {q : Nat} {g : Nat → Nat → Int} {j o : Nat} (hG : Good S) (hl : Live S j o) : rset (mapB S q g j o) (23 + q + 4 * (5 * j + o)) (g j o) = mapB S q g j (o + 1) := by
  have hj := hG.j6 hl.1
  have ho := hG.o5 hl
  funext k
  unfold rset
  by_cases e : k = 23 + q + 4 * (5 * j + o)
  · subst e
    rw [if_pos rfl, mapB_at hj ho, if_pos ⟨hl, by omega⟩]
  · rw [if_neg e]
    unfold mapB
    by_cases c : 23 + q ≤ k ∧ k < 143 + q ∧ (k - (23 + q)) % 4 = 0 ∧ ((((k - (23 + q)) / 4 / 5 : Nat) : Int) < S 1 ∧ (((k - (23 + q)) / 4 % 5 : Nat) : Int) < rO S ((k - (23 + q)) / 4 / 5)) ∧ ((k - (23 + q)) / 4 / 5 < j ∨ ((k - (23 + q)) / 4 / 5 = j ∧ (k - (23 + q)) / 4 % 5 < o))
    · rw [if_pos c, if_pos ⟨c.1, c.2.1, c.2.2.1, c.2.2.2.1, by have := c.2.2.2.2; omega⟩]
    · rw [if_neg c, if_neg (fun h => c ⟨h.1, h.2.1, h.2.2.1, h.2.2.2.1, by
        obtain ⟨h1, h2, h3, h4, h5⟩ := h
        rcases h5 with h5 | ⟨h5, h6⟩
        · exact Or.inl h5
        · refine Or.inr ⟨h5, ?_⟩
          refine Decidable.byContradiction (fun h7 => e ?_)
          have h8 : (k - (23 + q)) / 4 % 5 = o := by omega
          omega⟩)]
theorem mapB_row {S : Row} {q : Nat} {g : Nat → Nat → Int} {j : Nat} : mapB S q g j (nO S j) = mapB S q g (j + 1) 0 := by
  funext k
  unfold mapB
  have e : ((((k - (23 + q)) / 4 / 5 : Nat) : Int) < S 1 ∧ (((k - (23 + q)) / 4 % 5 : Nat) : Int) < rO S ((k - (23 + q)) / 4 / 5)) → (((k - (23 + q)) / 4 / 5 < j ∨ ((k - (23 + q)) / 4 / 5 = j ∧ (k - (23 + q)) / 4 % 5 < nO S j)) ↔ ((k - (23 + q)) / 4 / 5 < j + 1 ∨ ((k - (23 + q)) / 4 / 5 = j + 1 ∧ (k - (23 + q)) / 4 % 5 < 0))) := by
    intro h
    constructor
    · intro h2; omega
    · intro h2
      by_cases c : (k - (23 + q)) / 4 / 5 = j
      · have := h.2
        rw [c] at this
        exact Or.inr ⟨c, nO_lt.mpr this⟩
      · exact Or.inl (by omega)
  by_cases c : 23 + q ≤ k ∧ k < 143 + q ∧ (k - (23 + q)) % 4 = 0 ∧ ((((k - (23 + q)) / 4 / 5 : Nat) : Int) < S 1 ∧ (((k - (23 + q)) / 4 % 5 : Nat) : Int) < rO S ((k - (23 + q)) / 4 / 5)) ∧ ((k - (23 + q)) / 4 / 5 < j ∨ ((k - (23 + q)) / 4 / 5 = j ∧ (k - (23 + q)) / 4 % 5 < nO S j))
  · rw [if_pos c, if_pos ⟨c.1, c.2.1, c.2.2.1, c.2.2.2.1, (e c.2.2.2.1).mp c.2.2.2.2⟩]
  · rw [if_neg c, if_neg (fun h => c ⟨h.1, h.2.1, h.2.2.1, h.2.2.2.1, (e h.2.2.2.1).mpr h.2.2.2.2⟩)]
theorem mapS_live {S : Row} {q : Nat} {g : Nat → Nat → Int} {j o : Nat} (hG : Good S) (hl : Live S j o) : mapS S q g (23 + q + 4 * (5 * j + o)) = g j o := by
  unfold mapS
  rw [mapB_at (hG.j6 hl.1) (hG.o5 hl), if_pos ⟨hl, Or.inl (nJ_lt.mpr hl.1)⟩]
theorem mapB_sta {S : Row} {q : Nat} {g : Nat → Nat → Int} {j o : Nat} (hq : q = 2 ∨ q = 3) : Sta S (mapB S q g j o) := fun k hk => mapB_off (by omega)
theorem mapB_staP {S : Row} {g : Nat → Nat → Int} {j o : Nat} : StaP S (mapB S 3 g j o) := fun k hk => mapB_off (by omega)
theorem s44_p {j o p : Nat} (hj : j < 6) (ho : o < 5) (hp : p < 4) (σ : zSt) : zE 44 0 [some (zR 9), some (zI j), some (zI o), some (zI (p : Int))] [] σ = zRI (σ 65 (23 + p + 4 * (5 * j + o))) σ := by
  rw [X44_0, s43 hj ho, zbI_some]
  simp (disch := omega) only [zw_id, zgd_pos]
  rw [show (((23 + 4 * (5 * j + o) : Nat) : Int) + (p : Int)).toNat = 23 + p + 4 * (5 * j + o) by omega]
theorem s60_p {j o p : Nat} (hj : j < 6) (ho : o < 5) (hp : p < 4) (σ : zSt) : zE 60 0 [some (zR 9), some (zI j), some (zI o), some (zI (p : Int))] [] σ = zRI (zw (σ 65 (23 + p + 4 * (5 * j + o)) + sU (σ 65) (5 * j + o))) σ := by
  rw [X60_0, s44_p hj ho hp, zbI_some, s44_1 hj ho, zbI_some]
/-- a job's lateness by component p -/
def lt (S : Row) (p j : Nat) : Int := if rO S j = 0 then 0 else max 0 (zw (zw (S (23 + p + 4 * (5 * j + (nO S j - 1))) + sU S (5 * j + (nO S j - 1))) - rD S j))
def ltS (S : Row) (p : Nat) : Int := f1 (fun j a => zw (a + zw (rW S j * lt S p j))) (nJ S) 0
theorem s65 {σ : zSt} (hG : Good (σ 65)) {j : Nat} (hj : (j : Int) < σ 65 1) {p : Nat} (hp : p < 4) : zE 65 0 [some (zR 9), some (zI j), some (zI (p : Int)), none, none] [] σ = zRI (lt (σ 65) p j) σ := by
  have hj6 := hG.j6 hj
  have hO := (hG.2.1 j hj).2.2
  rw [X65_0, s42_2 hj6, zbI_some]
  unfold lt
  by_cases c : rO (σ 65) j = 0
  · rw [if_pos c, if_pos c, X65_31, if_pos (by decide)]
  · rw [if_neg c, if_neg c]
    have e : zw (rO (σ 65) j - 1) = ((nO (σ 65) j - 1 : Nat) : Int) := by rw [zw_id (by omega) (by omega)]; unfold nO; omega
    rw [e, s60_p hj6 (by unfold nO; omega) hp, zbI_some, s42_1 hj6, zbI_some, X65_31]
    by_cases c2 : zw (zw (σ 65 (23 + p + 4 * (5 * j + (nO (σ 65) j - 1))) + sU (σ 65) (5 * j + (nO (σ 65) j - 1))) - rD (σ 65) j) ≤ 0
    · rw [if_pos c2, show ∀ x : Int, x ≤ 0 → max 0 x = 0 by intro x hx; omega]
      exact c2
    · rw [if_neg c2, show ∀ x : Int, ¬ x ≤ 0 → max 0 x = x by intro x hx; omega]
      exact c2
theorem s66 {σ : zSt} (hG : Good (σ 65)) {p : Nat} (hp : p < 4) : zE 66 0 [some (zR 9), some (zI (p : Int)), none, none] [] σ = zRI (ltS (σ 65) p) σ := by
  rw [X66_0]
  refine (zloop1 (D := Unit) (nJ (σ 65)) (fun j a => zw (a + zw (rW (σ 65) j * lt (σ 65) p j))) (fun j a _ => zE 66 4 [some (zR 9), some (zI (p : Int)), some (zI a), some (zI (j : Int))] [] σ) (fun a => zRI a σ) (fun _ _ => True) ?_ ?_ 0 () trivial).1
  · intro j a _ hj _
    have hj' := nJ_lt.mp hj
    have hj6 := hG.j6 hj'
    refine ⟨⟨(), ?_⟩, trivial⟩
    show zE 66 4 [some (zR 9), some (zI (p : Int)), some (zI a), some (zI (j : Int))] [] σ = _
    rw [X66_4, if_pos hj', s42_0 hj6, zbI_some, s65 hG hj' hp, zbI_some, zw_nat1 (by omega)]
  · intro a _ _
    show zE 66 4 [some (zR 9), some (zI (p : Int)), some (zI a), some (zI ((nJ (σ 65) : Nat) : Int))] [] σ = _
    rw [X66_4, if_neg (by unfold nJ; omega)]
/-- how many live operations differ in two components -/
def dif (S : Row) (p q : Nat) : Int := fA S (fun j o a => if S (23 + p + 4 * (5 * j + o)) = S (23 + q + 4 * (5 * j + o)) then a else a + 1) 0
/-- component p over component q -/
def cpS (S : Row) (p q : Nat) : Row := mapS S q (fun j o => S (23 + p + 4 * (5 * j + o)))
theorem s67 {σ : zSt} (hG : Good (σ 65)) {p q : Nat} (hpq : (p = 2 ∧ q = 3) ∨ (p = 3 ∧ q = 2)) : zE 67 0 [some (zR 9), some (zI (p : Int)), some (zI (q : Int)), none, none, none] [] σ = zRI (dif (σ 65) p q) (zset σ 65 (cpS (σ 65) p q)) := by
  rw [X67_0]
  have st : ∀ j o, Sta (σ 65) (mapB (σ 65) q (fun j o => σ 65 (23 + p + 4 * (5 * j + o))) j o) := fun j o => mapB_sta (by omega)
  have loop := zloop2 (α := Int × zSt) (D := Option zVal) (E := Unit) (nJ (σ 65)) (nO (σ 65)) (fun j o a => (if σ 65 (23 + p + 4 * (5 * j + o)) = σ 65 (23 + q + 4 * (5 * j + o)) then a.1 else a.1 + 1, zup a.2 65 (23 + q + 4 * (5 * j + o)) (σ 65 (23 + p + 4 * (5 * j + o)))))
    (fun j a d => zE 67 5 [some (zR 9), some (zI (p : Int)), some (zI (q : Int)), some (zI a.1), some (zI (j : Int)), d] [] a.2)
    (fun j o a _ => zE 67 19 [some (zR 9), some (zI (p : Int)), some (zI (q : Int)), some (zI a.1), some (zI (j : Int)), some (zI (o : Int))] [] a.2)
    (fun a => zRI a.1 a.2) (fun j o a => a.2 = zset σ 65 (mapB (σ 65) q (fun j o => σ 65 (23 + p + 4 * (5 * j + o))) j o) ∧ 0 ≤ a.1 ∧ a.1 ≤ 5 * j + o) ?_ ?_ ?_ ?_ (0, σ) none ⟨by rw [mapB_0, zset_self], by omega, by omega⟩
  · obtain ⟨h1, h2, h3⟩ := loop
    refine h1.trans ?_
    have e1 : (fJ (nO (σ 65)) (fun j o (a : Int × zSt) => (if σ 65 (23 + p + 4 * (5 * j + o)) = σ 65 (23 + q + 4 * (5 * j + o)) then a.1 else a.1 + 1, zup a.2 65 (23 + q + 4 * (5 * j + o)) (σ 65 (23 + p + 4 * (5 * j + o))))) (nJ (σ 65)) (0, σ)).1 = dif (σ 65) p q := by
      unfold dif fA
      refine fJ_rel (nJ (σ 65)) (0, σ) (0 : Int) (fun _ _ (a : Int × zSt) b => a.1 = b) rfl ?_ (fun _ _ _ _ h => h)
      intro j o a b _ _ h
      show (if σ 65 (23 + p + 4 * (5 * j + o)) = σ 65 (23 + q + 4 * (5 * j + o)) then a.1 else a.1 + 1) = _
      rw [h]
    rw [e1, h2]
    rfl
  · intro j a d hj _
    refine ⟨(), ?_⟩
    have hj' := nJ_lt.mp hj
    have hk : a.2 65 1 = σ 65 1 := by
      rename_i hi
      rw [hi.1, zset_at]; exact (st _ _).k1
    show zE 67 5 [some (zR 9), some (zI (p : Int)), some (zI (q : Int)), some (zI a.1), some (zI (j : Int)), d] [] a.2 = _
    rw [X67_5, if_pos (by rw [hk]; exact hj')]
    rfl
  · intro j o a _ hj ho hi
    have hl := liveN hj ho
    have hj6 := hG.j6 hl.1
    have ho5 := hG.o5 hl
    have hr : a.2 65 = mapB (σ 65) q (fun j o => σ 65 (23 + p + 4 * (5 * j + o))) j o := by rw [hi.1, zset_at]
    have e1 : rO (a.2 65) j = rO (σ 65) j := by rw [hr]; exact (st _ _).o hj6
    have e2 : a.2 65 (23 + p + 4 * (5 * j + o)) = σ 65 (23 + p + 4 * (5 * j + o)) := by rw [hr]; exact mapB_off (by omega)
    have e3 : a.2 65 (23 + q + 4 * (5 * j + o)) = σ 65 (23 + q + 4 * (5 * j + o)) := by rw [hr, mapB_at hj6 ho5, if_neg (by omega)]
    refine ⟨⟨(), ?_⟩, ?_, ?_, ?_⟩
    · show zE 67 19 [some (zR 9), some (zI (p : Int)), some (zI (q : Int)), some (zI a.1), some (zI (j : Int)), some (zI (o : Int))] [] a.2 = _
      rw [X67_19, s42_2 hj6, zbI_some, e1, if_pos hl.2, s44_p hj6 ho5 (by omega), zbI_some, s44_p hj6 ho5 (by omega), zbI_some, X67_58, s43 hj6 ho5, zbI_some, s44_p hj6 ho5 (by omega), zbI_some, zw_id (x := ((23 + 4 * (5 * j + o) : Nat) : Int) + (q : Int)) (by omega) (by omega), zgd_pos (by omega), zw_nat1 (by omega), e2, e3]
      have e4 : (((23 + 4 * (5 * j + o) : Nat) : Int) + (q : Int)).toNat = 23 + q + 4 * (5 * j + o) := by omega
      rw [e4]
      by_cases c : σ 65 (23 + p + 4 * (5 * j + o)) = σ 65 (23 + q + 4 * (5 * j + o))
      · rw [if_pos c, if_pos c, zw_id (by omega) (by omega), Int.add_zero]
      · rw [if_neg c, if_neg c, zw_id (by omega) (by omega)]
    · show zup a.2 65 _ _ = _
      rw [zup_set, hr, hi.1, zset_set, mapB_step hG hl]
    · have h1 := hi.2.1
      dsimp only
      split
      · exact h1
      · omega
    · have h1 := hi.2.2
      dsimp only
      split
      · omega
      · omega
  · intro j a _ hj hi
    have hj6 := hG.j6 (nJ_lt.mp hj)
    have hr : a.2 65 = mapB (σ 65) q (fun j o => σ 65 (23 + p + 4 * (5 * j + o))) j (nO (σ 65) j) := by rw [hi.1, zset_at]
    have e1 : rO (a.2 65) j = rO (σ 65) j := by rw [hr]; exact (st _ _).o hj6
    have h5 : nO (σ 65) j ≤ 5 := by have := (hG.2.1 j (nJ_lt.mp hj)).2.2; unfold nO; omega
    refine ⟨⟨some (zI ((nO (σ 65) j : Nat) : Int)), ?_⟩, by rw [hi.1, mapB_row], hi.2.1, by have := hi.2.2; omega⟩
    show zE 67 19 [some (zR 9), some (zI (p : Int)), some (zI (q : Int)), some (zI a.1), some (zI (j : Int)), some (zI ((nO (σ 65) j : Nat) : Int))] [] a.2 = _
    rw [X67_19, s42_2 hj6, zbI_some, e1, if_neg (by unfold nO; omega), zw_nat1 (by omega)]
  · intro a d hi
    have hk : a.2 65 1 = σ 65 1 := by rw [hi.1, zset_at]; exact (st _ _).k1
    show zE 67 5 [some (zR 9), some (zI (p : Int)), some (zI (q : Int)), some (zI a.1), some (zI ((nJ (σ 65) : Nat) : Int)), d] [] a.2 = _
    rw [X67_5, if_neg (by rw [hk]; unfold nJ; omega)]
