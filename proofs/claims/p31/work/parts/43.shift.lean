/-! ===== 43: shift, replan, accept ===== -/
theorem RA.up {S : Row} {c : Nat} {H : Nat → Row} {t : Nat} {T : Row} {B B' : Int} (h : RA S c H t T B) (hB : B ≤ B') : RA S c H t T B' := ⟨h.1.up hB, h.2.1, fun i hi => (h.2.2.1 i hi).up hB, h.2.2.2⟩
/-- the draft becomes the present plan -/
theorem take19 {σ σ2 : zSt} {S R : Row} (h : ShC (shF σ 0) (shA σ 0) S) (hG : Good S) (h3 : S 3 = 1) (fr : Fr3 σ σ2) (st : StaP S R) (hd : ∀ j o, Live S j o → σ2 60 (5 * j + o) = sP R (5 * j + o)) : ∃ σ', zbV (zE 130 0 [some (zR 1), some (zR 19)] [] σ2) (fun σ3 => zbI (zE 161 0 [some (zR 2), some (zR 19), none, none] [] σ3) fun r4 σ4 => some (.inl (some (zI r4), σ4))) = zRI (ltS R 3) σ' ∧ ShC (shF σ' 0) (shA σ' 0) R ∧ ∀ k, k ≠ 19 → k ≠ 60 → k ≠ 61 → k ≠ 62 → σ' k = σ k := by
  have off : ∀ k, k ≠ 19 → k ≠ 60 → k ≠ 61 → k ≠ 62 → (zcp σ2 60 19 30) k = σ k := fun k a1 a2 a3 a4 => by rw [zcp_off a1]; exact fr k a2 a3 a4
  have a19 : ∀ j o, Live S j o → (zcp σ2 60 19 30) 19 (5 * j + o) = sP R (5 * j + o) := fun j o hl => by
    have := hG.j6 hl.1; have := hG.o5 hl
    rw [zcp_at (by omega)]; exact hd j o hl
  have sh : ShC (shF (zcp σ2 60 19 30) 0) (shA (zcp σ2 60 19 30) 0) R := by
    obtain ⟨⟨h0, h1, h2, h3', h4⟩, hj', hi', hb', hp⟩ := h
    have o2 : (zcp σ2 60 19 30) 2 = σ 2 := off 2 (by decide) (by decide) (by decide) (by decide)
    refine ⟨⟨?_, ?_, ?_, ?_, ?_⟩, fun j' hj2 => ?_, fun i hi => ?_, fun b hb => ?_, fun q j o hl => ?_⟩
    · rw [st.sta.k0, ← h0]; simp only [shF]; rw [o2]
    · rw [st.sta.k1, ← h1]; simp only [shF]; rw [o2]
    · rw [st.sta.k2, ← h2]; simp only [shF]; rw [o2]
    · rw [st.sta.k3, ← h3']; simp only [shF]; rw [o2]
    · rw [st.sta.k4, ← h4]; simp only [shF]; rw [o2]
    · rw [st.sta.w hj2, st.sta.d hj2, st.sta.o hj2]
      simp only [shA]
      rw [off _ (by decide) (by decide) (by decide) (by decide), off _ (by decide) (by decide) (by decide) (by decide), off _ (by decide) (by decide) (by decide) (by decide)]
      exact hj' j' hj2
    · rw [st.sta.m, st.sta.u]
      simp only [shA]
      rw [off _ (by decide) (by decide) (by decide) (by decide), off _ (by decide) (by decide) (by decide) (by decide)]
      exact hi' i hi
    · rw [st.sta.bm, st.sta.bf, st.sta.bl]
      simp only [shA]
      rw [off _ (by decide) (by decide) (by decide) (by decide), off _ (by decide) (by decide) (by decide) (by decide), off _ (by decide) (by decide) (by decide) (by decide)]
      exact hb' b hb
    · have hl2 := (st.sta.live hG j o).mp hl
      have e1 : sL R (5 * j + o) = sL S (5 * j + o) := st _ (by omega)
      rw [e1]
      refine ⟨?_, a19 j o hl2⟩
      simp only [shA]
      rw [off _ (by decide) (by decide) (by decide) (by decide)]
      exact (hp h3 j o hl2).1
  rw [X130_0_1_19]
  show ∃ σ', zbV (zRV (zcp σ2 60 19 30)) _ = _ ∧ _
  rw [zbV_some, s161 sh.cs (st.sta.good hG) (p := 3) (by rfl) (fun j o hl => a19 j o ((st.sta.live hG j o).mp hl)), zbI_some]
  exact ⟨_, rfl, sh, off⟩
theorem Val.stap {S R : Row} {B : Int} (h : Val S 2 B) (hG : Good S) (st : StaP S R) : Val R 2 B :=
  h.via (fun j o g => (st.sta.live hG j o).mp g) (fun j o _ => ⟨st _ (by omega), st.sta.m _, st.sta.u _⟩)
/-- the present plan over the old one, on the class's side -/
def fAc (S : Row) (j o : Nat) (a : Int × zSt) : Int × zSt := if sL S (5 * j + o) = sP S (5 * j + o) then a else (a.1 + 1, zup a.2 18 (5 * j + o) (sP S (5 * j + o)))
theorem s168 {σ : zSt} {S : Row} (hC : CS σ S) (hG : Good S) (hA : ∀ j o, Live S j o → σ 18 (5 * j + o) = sL S (5 * j + o) ∧ σ 19 (5 * j + o) = sP S (5 * j + o)) : ∃ σ', zE 168 0 [some (zR 2), none, none, none, none] [] σ = zRI (dif S 3 2) σ' ∧ (∀ k, k ≠ 18 → σ' k = σ k) ∧ ∀ j o, Live S j o → σ' 18 (5 * j + o) = sP S (5 * j + o) := by
  have key := zloop2 (α := Int × zSt) (D := Option zVal × Option zVal) (E := Option zVal) (nJ S) (nO S) (fAc S)
    (fun j a d => zE 168 4 [some (zR 2), some (zI a.1), some (zI (j : Int)), d.1, d.2] [] a.2)
    (fun j o a d => zE 168 14 [some (zR 2), some (zI a.1), some (zI (j : Int)), some (zI (o : Int)), d] [] a.2)
    (fun a => zRI a.1 a.2) (fun j o a => (∀ k, k ≠ 18 → a.2 k = σ k) ∧ (∀ j' o', Live S j' o' → Bef (nO S) j o j' o' → a.2 18 (5 * j' + o') = sP S (5 * j' + o')) ∧ (∀ j' o', Live S j' o' → ¬ Bef (nO S) j o j' o' → a.2 18 (5 * j' + o') = sL S (5 * j' + o')) ∧ 0 ≤ a.1 ∧ a.1 ≤ 5 * j + o) ?_ ?_ ?_ ?_ (0, σ) (none, none) ⟨fun _ _ => rfl, fun j' o' _ q => by have := q.2; omega, fun j' o' hl _ => (hA j' o' hl).1, by omega⟩
  · have rel := fJ_rel (no := nO S) (f := fAc S) (g := fun j o a => if S (23 + 3 + 4 * (5 * j + o)) = S (23 + 2 + 4 * (5 * j + o)) then a else a + 1) (nJ S) (0, σ) (0 : Int) (fun _ _ a b => a.1 = b) rfl (fun j o a b _ _ q => by
      unfold fAc
      have e1 : S (23 + 3 + 4 * (5 * j + o)) = sP S (5 * j + o) := rfl
      have e2 : S (23 + 2 + 4 * (5 * j + o)) = sL S (5 * j + o) := rfl
      rw [e1, e2]
      by_cases c : sL S (5 * j + o) = sP S (5 * j + o)
      · rw [if_pos c, if_pos c.symm]; exact q
      · rw [if_neg c, if_neg (fun w => c w.symm)]
        show a.1 + 1 = b + 1
        rw [q]) (fun _ _ _ _ q => q)
    refine ⟨(fJ (nO S) (fAc S) (nJ S) (0, σ)).2, ?_, key.2.1, fun j o hl => ?_⟩
    · rw [X168_0]
      refine key.1.trans ?_
      show zRI _ _ = _
      rw [rel]; rfl
    · exact key.2.2.1 j o hl ⟨nO_lt.mpr hl.2, Or.inl (nJ_lt.mpr hl.1)⟩
  · intro j a d hj hi
    refine ⟨d.2, ?_⟩
    show zE 168 4 [some (zR 2), some (zI a.1), some (zI (j : Int)), d.1, d.2] [] a.2 = _
    rw [X168_4, if_pos (by rw [hi.1 2 (by decide), hC.1.2.1]; exact nJ_lt.mp hj)]
    rfl
  · intro j o a d hj ho hi
    have hl := liveN hj ho
    have hj6 := hG.j6 hl.1
    have ho5 := hG.o5 hl
    obtain ⟨i1, i2, i3, i4, i5⟩ := hi
    have e12 : a.2 12 j = rO S j := by rw [i1 12 (by decide)]; exact (hC.2.1 j hj6).2.2
    have e18 : a.2 18 (5 * j + o) = sL S (5 * j + o) := i3 j o hl (fun q => by have := q.2; omega)
    have e19 : a.2 19 (5 * j + o) = sP S (5 * j + o) := by rw [i1 19 (by decide)]; exact (hA j o hl).2
    constructor
    · refine ⟨some (zI ((5 * j + o : Nat) : Int)), ?_⟩
      show zE 168 14 [some (zR 2), some (zI a.1), some (zI (j : Int)), some (zI (o : Int)), d] [] a.2 = _
      rw [X168_14, zgd_pos (by omega), toNat_n, e12, if_pos hl.2, s35 (by omega) (by omega), zbI_some, zgd_pos (by omega), zgd_pos (by omega), toNat_n, e18, e19]
      unfold fAc
      by_cases cc : sL S (5 * j + o) = sP S (5 * j + o)
      · rw [if_pos cc, if_pos cc, zw_nat1 (by omega)]
      · rw [if_neg cc, if_neg cc, zgd_pos (by omega), zgd_pos (by omega), zw_nat1 (by omega), zw_id (x := a.1 + 1) (by omega) (by omega)]
    · unfold fAc
      by_cases cc : sL S (5 * j + o) = sP S (5 * j + o)
      · rw [if_pos cc]
        refine ⟨i1, fun j' o' hl' hb => ?_, fun j' o' hl' hb => ?_, by omega⟩
        · by_cases e : j' = j ∧ o' = o
          · rw [e.1, e.2, e18, cc]
          · exact i2 j' o' hl' ⟨hb.1, by have := hb.2; omega⟩
        · exact i3 j' o' hl' (fun q => hb ⟨q.1, by have := q.2; omega⟩)
      · rw [if_neg cc]
        refine ⟨fun k hk => by dsimp only; rw [zup_off hk]; exact i1 k hk, fun j' o' hl' hb => ?_, fun j' o' hl' hb => ?_, by dsimp only; omega⟩
        · have := hG.o5 hl'
          dsimp only
          by_cases e : j' = j ∧ o' = o
          · rw [e.1, e.2]; exact zup_at _ _ _ _
          · rw [zup_of (by omega)]
            exact i2 j' o' hl' ⟨hb.1, by have := hb.2; omega⟩
        · have := hG.o5 hl'
          have e : ¬ (j' = j ∧ o' = o) := fun e => hb ⟨nO_lt.mpr hl'.2, Or.inr ⟨e.1, by omega⟩⟩
          dsimp only
          rw [zup_of (by omega)]
          exact i3 j' o' hl' (fun q => hb ⟨q.1, by have := q.2; omega⟩)
  · intro j a d hj hi
    have hj6 := hG.j6 (nJ_lt.mp hj)
    obtain ⟨i1, i2, i3, i4, i5⟩ := hi
    have h5 : nO S j ≤ 5 := by have := (hG.2.1 j (nJ_lt.mp hj)).2.2; unfold nO; omega
    have e12 : a.2 12 j = rO S j := by rw [i1 12 (by decide)]; exact (hC.2.1 j hj6).2.2
    refine ⟨⟨(some (zI ((nO S j : Nat) : Int)), d), ?_⟩, i1, fun j' o' hl' hb => i2 j' o' hl' ⟨hb.1, by
      have h1 := hb.1; have h2 := hb.2
      by_cases e : j' = j
      · subst e; exact Or.inr ⟨rfl, h1⟩
      · exact Or.inl (by omega)⟩, fun j' o' hl' hb => i3 j' o' hl' (fun q => hb ⟨q.1, by have := q.2; omega⟩), by omega⟩
    show zE 168 14 [some (zR 2), some (zI a.1), some (zI (j : Int)), some (zI ((nO S j : Nat) : Int)), d] [] a.2 = _
    rw [X168_14, zgd_pos (by omega), toNat_n, e12, if_neg (by unfold nO; omega), zw_nat1 (by omega)]
  · intro a d hi
    show zE 168 4 [some (zR 2), some (zI a.1), some (zI ((nJ S : Nat) : Int)), d.1, d.2] [] a.2 = _
    rw [X168_4, if_neg (by rw [hi.1 2 (by decide), hC.1.2.1]; have := hG.1.2.1; unfold nJ; omega)]
