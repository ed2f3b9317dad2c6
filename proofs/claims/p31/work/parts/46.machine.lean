/-! ===== 46: onMachine ===== -/
/-- how many operations on machine m start before t -/
def fAh (S : Row) (m t : Int) (j o : Nat) (a : Int) : Int := if sM S (5 * j + o) = m ∧ sP S (5 * j + o) < t then a + 1 else a
def ahd (S : Row) (m t : Int) : Int := fA S (fAh S m t) 0
theorem fAh_le {S : Row} {m t : Int} {j o : Nat} {a : Int} (h : 0 ≤ a ∧ a ≤ 5 * j + o) : 0 ≤ fAh S m t j o a ∧ fAh S m t j o a ≤ 5 * j + (o + 1 : Nat) := by
  unfold fAh
  split <;> omega
theorem s170 {σ : zSt} {S : Row} (hC : CS σ S) (hG : Good S) (hA : ∀ j o, Live S j o → σ 19 (5 * j + o) = sP S (5 * j + o)) (m t : Int) : zE 170 0 [some (zR 2), some (zI m), some (zI t), none, none, none, none] [] σ = zRI (ahd S m t) σ := by
  have key := zloop2 (α := Int) (D := Option zVal × Option zVal) (E := Option zVal) (nJ S) (nO S) (fAh S m t)
    (fun j a d => zE 170 5 [some (zR 2), some (zI m), some (zI t), some (zI a), some (zI (j : Int)), d.1, d.2] [] σ)
    (fun j o a d => zE 170 17 [some (zR 2), some (zI m), some (zI t), some (zI a), some (zI (j : Int)), some (zI (o : Int)), d] [] σ)
    (fun a => zRI a σ) (fun j o a => 0 ≤ a ∧ a ≤ 5 * j + o) ?_ ?_ ?_ ?_ 0 (none, none) (by omega)
  · rw [X170_0]
    exact key.1
  · intro j a d hj hi
    refine ⟨d.2, ?_⟩
    show zE 170 5 [some (zR 2), some (zI m), some (zI t), some (zI a), some (zI (j : Int)), d.1, d.2] [] σ = _
    rw [X170_5, if_pos (by rw [hC.1.2.1]; exact nJ_lt.mp hj)]
    rfl
  · intro j o a d hj ho hi
    have hl := liveN hj ho
    have hj6 := hG.j6 hl.1
    have ho5 := hG.o5 hl
    refine ⟨⟨some (zI ((5 * j + o : Nat) : Int)), ?_⟩, fAh_le hi⟩
    show zE 170 17 [some (zR 2), some (zI m), some (zI t), some (zI a), some (zI (j : Int)), some (zI (o : Int)), d] [] σ = _
    rw [X170_17, zgd_pos (by omega), toNat_n, (hC.2.1 j hj6).2.2, if_pos hl.2, s35 (by omega) (by omega), zbI_some, zgd_pos (by omega), toNat_n, (hC.2.2.1 (5 * j + o) (by omega)).1, hA j o hl]
    unfold fAh
    by_cases q : sM S (5 * j + o) = m
    · rw [if_pos q, zgd_pos (by omega)]
      by_cases q2 : sP S (5 * j + o) < t
      · rw [if_pos q2, if_pos ⟨q, q2⟩, zw_nat1 (by omega), zw_id (x := a + 1) (by omega) (by omega)]
      · rw [if_neg q2, if_neg (fun w => q2 w.2), zw_nat1 (by omega)]
    · rw [if_neg q, if_neg (fun w => q w.1), zw_nat1 (by omega)]
  · intro j a d hj hi
    have hj6 := hG.j6 (nJ_lt.mp hj)
    have h5 : nO S j ≤ 5 := by have := (hG.2.1 j (nJ_lt.mp hj)).2.2; unfold nO; omega
    refine ⟨⟨(some (zI ((nO S j : Nat) : Int)), d), ?_⟩, by omega⟩
    show zE 170 17 [some (zR 2), some (zI m), some (zI t), some (zI a), some (zI (j : Int)), some (zI ((nO S j : Nat) : Int)), d] [] σ = _
    rw [X170_17, zgd_pos (by omega), toNat_n, (hC.2.1 j hj6).2.2, if_neg (by unfold nO; omega), zw_nat1 (by omega)]
  · intro a d hi
    show zE 170 5 [some (zR 2), some (zI m), some (zI t), some (zI a), some (zI ((nJ S : Nat) : Int)), d.1, d.2] [] σ = _
    rw [X170_5, if_neg (by rw [hC.1.2.1]; have := hG.1.2.1; unfold nJ; omega)]
/-- the operation is the i-th on machine m -/
def Ith (S : Row) (m i : Int) (j o : Nat) : Prop := sM S (5 * j + o) = m ∧ ahd S m (sP S (5 * j + o)) = i
def Cod (S : Row) (m i : Int) (v : Int) : Prop := (∃ j o, Live S j o ∧ Ith S m i j o ∧ v = 10 * j + o) ∨ (v = -1 ∧ ∀ j o, Live S j o → ¬ Ith S m i j o)
theorem ahd_lt {S : Row} {m t t' : Int} (ht : t ≤ t') {j1 o1 : Nat} (hl : Live S j1 o1) (hm : sM S (5 * j1 + o1) = m) (h1 : t ≤ sP S (5 * j1 + o1)) (h2 : sP S (5 * j1 + o1) < t') : ahd S m t + 1 ≤ ahd S m t' := by
  have key := fJ_rel (no := nO S) (f := fAh S m t) (g := fAh S m t') (nJ S) (0 : Int) (0 : Int) (fun j o a b => a + (if j1 < j ∨ (j1 = j ∧ o1 < o) then 1 else 0) ≤ b) (by rw [if_neg (by omega)]; omega)
    (fun j o a b hj ho ih => by
      unfold fAh
      by_cases e : j = j1 ∧ o = o1
      · obtain ⟨rfl, rfl⟩ := e
        rw [if_neg (by omega)] at ih
        rw [if_neg (c := sM S (5 * j + o) = m ∧ sP S (5 * j + o) < t) (by omega), if_pos (c := sM S (5 * j + o) = m ∧ sP S (5 * j + o) < t') ⟨hm, h2⟩, if_pos (by omega)]
        omega
      · have e3 : (j1 < j ∨ (j1 = j ∧ o1 < o + 1)) ↔ (j1 < j ∨ (j1 = j ∧ o1 < o)) := by omega
        simp only [e3]
        by_cases c : sM S (5 * j + o) = m ∧ sP S (5 * j + o) < t
        · rw [if_pos c, if_pos (c := sM S (5 * j + o) = m ∧ sP S (5 * j + o) < t') ⟨c.1, by have := c.2; omega⟩]; omega
        · rw [if_neg c]
          by_cases c2 : sM S (5 * j + o) = m ∧ sP S (5 * j + o) < t'
          · rw [if_pos c2]; omega
          · rw [if_neg c2]; exact ih)
    (fun j a b hj ih => by
      have e3 : (j1 < j + 1 ∨ (j1 = j + 1 ∧ o1 < 0)) ↔ (j1 < j ∨ (j1 = j ∧ o1 < nO S j)) := by
        constructor
        · intro q
          by_cases e : j1 = j
          · subst e; exact Or.inr ⟨rfl, nO_lt.mpr hl.2⟩
          · exact Or.inl (by omega)
        · omega
      simp only [e3]
      exact ih)
  rw [if_pos (Or.inl (nJ_lt.mpr hl.1))] at key
  exact key
theorem Ith.uniq {S : Row} {B : Int} (hG : Good S) (hV : Val S 3 B) {m i : Int} {j o j' o' : Nat} (hl : Live S j o) (hl' : Live S j' o') (h : Ith S m i j o) (h' : Ith S m i j' o') : j = j' ∧ o = o' := by
  refine Decidable.byContradiction (fun hne => ?_)
  have hm : sM S (5 * j + o) = sM S (5 * j' + o') := by rw [h.1, h'.1]
  have hu := (hG.2.2.1 j o hl.1 hl.2).2
  have hu' := (hG.2.2.1 j' o' hl'.1 hl'.2).2
  have e1 : S (23 + 3 + 4 * (5 * j + o)) = sP S (5 * j + o) := rfl
  have e2 : S (23 + 3 + 4 * (5 * j' + o')) = sP S (5 * j' + o') := rfl
  have q := hV.2.2 j o j' o' hl hl' hm hne
  rw [e1, e2] at q
  have h2 := h.2
  have h2' := h'.2
  rcases q with q | q
  · have := ahd_lt (S := S) (m := m) (t := sP S (5 * j + o)) (t' := sP S (5 * j' + o')) (by omega) hl h.1 (Int.le_refl _) (by omega)
    omega
  · have := ahd_lt (S := S) (m := m) (t := sP S (5 * j' + o')) (t' := sP S (5 * j + o)) (by omega) hl' h'.1 (Int.le_refl _) (by omega)
    omega
theorem Cod.uniq {S : Row} {B : Int} (hG : Good S) (hV : Val S 3 B) {m i v v' : Int} (h : Cod S m i v) (h' : Cod S m i v') : v = v' := by
  rcases h with ⟨j, o, a1, a2, a3⟩ | ⟨a1, a2⟩
  · rcases h' with ⟨j', o', b1, b2, b3⟩ | ⟨b1, b2⟩
    · obtain ⟨rfl, rfl⟩ := Ith.uniq hG hV a1 b1 a2 b2
      rw [a3, b3]
    · exact absurd a2 (b2 j o a1)
  · rcases h' with ⟨j', o', b1, b2, b3⟩ | ⟨b1, b2⟩
    · exact absurd b2 (a2 j' o' b1)
    · rw [a1, b1]
theorem s169 {σ : zSt} {S : Row} (hC : CS σ S) (hG : Good S) (hA : ∀ j o, Live S j o → σ 19 (5 * j + o) = sP S (5 * j + o)) (m i : Int) : ∃ v, zE 169 0 [some (zR 2), some (zI m), some (zI i), none, none, none] [] σ = zRI v σ ∧ Cod S m i v := by
  have outer : ∀ (dj j : Nat) (d4 d5 : Option zVal), j + dj = nJ S → (∀ j' o', Live S j' o' → j' < j → ¬ Ith S m i j' o') → ∃ v, zE 169 2 [some (zR 2), some (zI m), some (zI i), some (zI (j : Int)), d4, d5] [] σ = zRI v σ ∧ Cod S m i v := by
    intro dj
    induction dj with
    | zero =>
      intro j d4 d5 hj hn
      rw [X169_2, if_neg (by rw [hC.1.2.1]; have := hG.1.2.1; unfold nJ at hj; omega)]
      exact ⟨-1, rfl, Or.inr ⟨rfl, fun j' o' hl => hn j' o' hl (by have := nJ_lt.mpr hl.1; omega)⟩⟩
    | succ dj ih =>
      intro j d4 d5 hj hn
      have hjl := nJ_lt.mp (show j < nJ S by omega)
      have hj6 := hG.j6 hjl
      have g5 := (hG.2.1 j hjl).2.2
      have inner : ∀ (d o : Nat) (d5 : Option zVal), o + d = nO S j → (∀ o', o' < o → ¬ Ith S m i j o') → ∃ v, zE 169 13 [some (zR 2), some (zI m), some (zI i), some (zI (j : Int)), some (zI (o : Int)), d5] [] σ = zRI v σ ∧ Cod S m i v := by
        intro d
        induction d with
        | zero =>
          intro o d5 ho hno
          rw [X169_13, zgd_pos (by omega), toNat_n, (hC.2.1 j hj6).2.2, if_neg (by unfold nO at ho; omega), zw_nat1 (by omega)]
          refine ih (j + 1) _ _ (by omega) (fun j' o' hl hlt => ?_)
          by_cases e : j' = j
          · subst e
            exact hno o' (by have := nO_lt.mpr hl.2; omega)
          · exact hn j' o' hl (by omega)
        | succ d ih2 =>
          intro o d5 ho hno
          have hl : Live S j o := ⟨hjl, nO_lt.mp (by omega)⟩
          have ho5 := hG.o5 hl
          rw [X169_13, zgd_pos (by omega), toNat_n, (hC.2.1 j hj6).2.2, if_pos hl.2, s35 (by omega) (by omega), zbI_some, zgd_pos (by omega), toNat_n, (hC.2.2.1 (5 * j + o) (by omega)).1]
          have next : ¬ Ith S m i j o → ∀ d5, ∃ v, zE 169 13 [some (zR 2), some (zI m), some (zI i), some (zI (j : Int)), some (zI (zw ((o : Int) + 1))), d5] [] σ = zRI v σ ∧ Cod S m i v := by
            intro hni d5
            rw [zw_nat1 (by omega)]
            refine ih2 (o + 1) d5 (by omega) (fun o' ho' => ?_)
            by_cases e : o' = o
            · rw [e]; exact hni
            · exact hno o' (by omega)
          by_cases q : sM S (5 * j + o) = m
          · rw [if_pos q, zgd_pos (by omega), hA j o hl, s170 hC hG hA, zbI_some]
            by_cases q2 : ahd S m (sP S (5 * j + o)) = i
            · rw [if_pos q2]
              exact ⟨10 * j + o, by rw [zw_id (x := 10 * (j : Int)) (by omega) (by omega), zw_id (by omega) (by omega)], Or.inl ⟨j, o, hl, ⟨q, q2⟩, rfl⟩⟩
            · rw [if_neg q2]
              exact next (fun w => q2 w.2) _
          · rw [if_neg q]
            exact next (fun w => q w.1) _
      rw [X169_2, if_pos (by rw [hC.1.2.1]; exact hjl)]
      exact inner (nO S j) 0 d5 (by omega) (fun o' h => by omega)
  rw [X169_0]
  exact outer (nJ S) 0 none none (by omega) (fun j' o' _ h => by omega)
noncomputable def fCo (S : Row) (m i : Int) (j o : Nat) (a : Int) : Int := @ite _ (Ith S m i j o) (Classical.propDecidable _) (10 * j + o) a
