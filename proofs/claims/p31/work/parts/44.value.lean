/-! ===== 44: what is asked, and changes nothing: breakdown, value ===== -/
theorem zup9_65 {τ : zSt} {i : Nat} {v : Int} : (zup τ 9 i v) 65 = τ 65 := zup_off (by decide)
/-- how many operations there are -/
def opn (S : Row) : Int := f1 (fun j a => zw (a + rO S j)) (nJ S) 0
theorem s156 {σ : zSt} {S : Row} (hC : CS σ S) (hG : Good S) : zE 156 0 [some (zR 2), none, none] [] σ = zRI (opn S) σ := by
  have key := zloop1 (α := Int) (D := Unit) (nJ S) (fun j a => zw (a + rO S j)) (fun j a _ => zE 156 4 [some (zR 2), some (zI a), some (zI (j : Int))] [] σ) (fun a => zRI a σ) (fun _ _ => True) ?_ ?_ 0 () trivial
  · rw [X156_0]
    exact key.1
  · intro j a _ hj _
    have hjl := nJ_lt.mp hj
    have hj6 := hG.j6 hjl
    refine ⟨⟨(), ?_⟩, trivial⟩
    show zE 156 4 [some (zR 2), some (zI a), some (zI (j : Int))] [] σ = _
    rw [X156_4, if_pos (by rw [hC.1.2.1]; exact hjl), zgd_pos (by omega), toNat_n, (hC.2.1 j hj6).2.2, zw_nat1 (by omega)]
  · intro a _ _
    show zE 156 4 [some (zR 2), some (zI a), some (zI ((nJ S : Nat) : Int))] [] σ = _
    rw [X156_4, if_neg (by rw [hC.1.2.1]; have := hG.1.2.1; unfold nJ; omega)]
/-- an end of the present plan -/
def Pend (S : Row) (n : Nat) (t : Int) : Prop := ∃ j o, j < n ∧ o < nO S j ∧ t = sP S (5 * j + o) + sU S (5 * j + o)
theorem Val.mono {S : Row} {B : Int} (hV : Val S 3 B) (hG : Good S) {j : Nat} : ∀ (d o : Nat), Live S j (o + d) → sP S (5 * j + o) + sU S (5 * j + o) ≤ sP S (5 * j + (o + d)) + sU S (5 * j + (o + d)) := by
  intro d
  induction d with
  | zero => intro o _; exact Int.le_refl _
  | succ d ih =>
    intro o hl
    have hl' : Live S j (o + d) := ⟨hl.1, by have := hl.2; omega⟩
    have h1 := ih o hl'
    have h2 := hV.2.1 j (o + d) (by rw [show o + d + 1 = o + (d + 1) by omega]; exact hl)
    have e1 : S (23 + 3 + 4 * (5 * j + (o + d))) = sP S (5 * j + (o + d)) := rfl
    have e2 : S (23 + 3 + 4 * (5 * j + (o + d + 1))) = sP S (5 * j + (o + (d + 1))) := rfl
    rw [e1, e2] at h2
    have h3 := (hG.2.2.1 j (o + (d + 1)) hl.1 hl.2).2
    omega
theorem s162 {σ : zSt} {S : Row} {B : Int} (hC : CS σ S) (hG : Good S) (hV : Val S 3 B) (hB : B ≤ 800000) (hA : ∀ j o, Live S j o → σ 19 (5 * j + o) = sP S (5 * j + o)) : ∃ m, zE 162 0 [some (zR 2), none, none] [] σ = zRI m σ ∧ Mx 0 (Pend S (nJ S)) m := by
  have go : ∀ (d j : Nat) (a : Int), j + d = nJ S → Mx 0 (Pend S j) a → ∃ m, zE 162 4 [some (zR 2), some (zI a), some (zI (j : Int))] [] σ = zRI m σ ∧ Mx 0 (Pend S (nJ S)) m := by
    intro d
    induction d with
    | zero =>
      intro j a hj hm
      rw [X162_4, if_neg (by rw [hC.1.2.1]; have := hG.1.2.1; unfold nJ at hj; omega)]
      rw [show j = nJ S by omega] at hm
      exact ⟨a, rfl, hm⟩
    | succ d ih =>
      intro j a hj hm
      have hjl := nJ_lt.mp (show j < nJ S by omega)
      have hj6 := hG.j6 hjl
      rw [X162_4, if_pos (by rw [hC.1.2.1]; exact hjl), s159 hC hG (p := 3) (k := 19) (by rfl) hA hjl, zbI_some, zw_nat1 (by omega)]
      refine ih (j + 1) _ (by omega) ?_
      by_cases c : rO S j = 0
      · rw [if_pos c]
        have h0 := hm.1
        rw [show max a 0 = a by omega]
        refine hm.congr (fun t => ⟨fun ⟨j', o, h1, h2⟩ => ⟨j', o, by omega, h2⟩, fun ⟨j', o, h1, h2, h3⟩ => ⟨j', o, ?_, h2, h3⟩⟩)
        by_cases e : j' = j
        · subst e; have := nO_lt.mp h2; omega
        · omega
      · rw [if_neg c]
        have g5 := (hG.2.1 j hjl).2.2
        obtain ⟨o, ho⟩ : ∃ o : Nat, rO S j = (o : Int) + 1 := ⟨(rO S j - 1).toNat, by omega⟩
        have hn : nO S j = o + 1 := by unfold nO; omega
        have hl : Live S j o := ⟨hjl, by omega⟩
        have hp := hV.1 j o hl
        have hu := (hG.2.2.1 j o hl.1 hl.2).2
        have e1 : S (23 + 3 + 4 * (5 * j + (nO S j - 1))) = sP S (5 * j + o) := by rw [hn]; rfl
        have e2 : sU S (5 * j + (nO S j - 1)) = sU S (5 * j + o) := by rw [hn]; rfl
        have e3 : S (23 + 3 + 4 * (5 * j + o)) = sP S (5 * j + o) := rfl
        rw [e3] at hp
        rw [e1, e2, zw_id (by omega) (by omega)]
        refine ⟨by have := hm.1; omega, fun t ⟨j', o', h1, h2, h3⟩ => ?_, ?_⟩
        · by_cases e : j' = j
          · subst e
            have := hV.mono hG (j := j') (o - o') o' (by rw [show o' + (o - o') = o by omega]; exact hl)
            rw [show o' + (o - o') = o by omega] at this
            omega
          · have := hm.2.1 t ⟨j', o', by omega, h2, h3⟩
            omega
        · by_cases q : a < sP S (5 * j + o) + sU S (5 * j + o)
          · exact Or.inr ⟨j, o, by omega, by omega, by omega⟩
          · rcases hm.2.2 with w | ⟨j', o', h1, h2, h3⟩
            · exact Or.inl (by omega)
            · exact Or.inr ⟨j', o', by omega, h2, by omega⟩
  rw [X162_0]
  exact go (nJ S) 0 0 (by omega) (Mx.nil (fun t ⟨j', o', h1, _⟩ => by omega))
/-- how many operations of the present plan hit a breakdown -/
noncomputable def fHt (S : Row) (j o : Nat) (a : Int) : Int := @ite _ (Hits S (5 * j + o) (sP S (5 * j + o))) (Classical.propDecidable _) (a + 1) a
noncomputable def htS (S : Row) : Int := fA S (fHt S) 0
theorem fHt_le {S : Row} {j o : Nat} {a : Int} (h : 0 ≤ a ∧ a ≤ 5 * j + o) : 0 ≤ fHt S j o a ∧ fHt S j o a ≤ 5 * j + (o + 1 : Nat) := by
  unfold fHt
  by_cases q : Hits S (5 * j + o) (sP S (5 * j + o))
  · rw [if_pos q]; omega
  · rw [if_neg q]; omega
theorem s166 {σ : zSt} {S : Row} {B : Int} (hC : CS σ S) (hG : Good S) (hV : Val S 3 B) (hB : B ≤ 800000) (hA : ∀ j o, Live S j o → σ 19 (5 * j + o) = sP S (5 * j + o)) : zE 166 0 [some (zR 2), none, none, none, none] [] σ = zRI (htS S) σ := by
  have key := zloop2 (α := Int) (D := Option zVal × Option zVal) (E := Option zVal) (nJ S) (nO S) (fHt S)
    (fun j a d => zE 166 4 [some (zR 2), some (zI a), some (zI (j : Int)), d.1, d.2] [] σ)
    (fun j o a d => zE 166 14 [some (zR 2), some (zI a), some (zI (j : Int)), some (zI (o : Int)), d] [] σ)
    (fun a => zRI a σ) (fun j o a => 0 ≤ a ∧ a ≤ 5 * j + o) ?_ ?_ ?_ ?_ 0 (none, none) (by omega)
  · rw [X166_0]
    exact key.1
  · intro j a d hj hi
    refine ⟨d.2, ?_⟩
    show zE 166 4 [some (zR 2), some (zI a), some (zI (j : Int)), d.1, d.2] [] σ = _
    rw [X166_4, if_pos (by rw [hC.1.2.1]; exact nJ_lt.mp hj)]
    rfl
  · intro j o a d hj ho hi
    have hl := liveN hj ho
    have hj6 := hG.j6 hl.1
    have ho5 := hG.o5 hl
    have hp := hV.1 j o hl
    have e3 : S (23 + 3 + 4 * (5 * j + o)) = sP S (5 * j + o) := rfl
    rw [e3] at hp
    obtain ⟨q1, q2⟩ := s164 hC hG (i := 5 * j + o) (by omega) (hG.2.2.1 j o hl.1 hl.2).2 (t := sP S (5 * j + o)) (by omega)
    refine ⟨⟨some (zI ((5 * j + o : Nat) : Int)), ?_⟩, fHt_le hi⟩
    show zE 166 14 [some (zR 2), some (zI a), some (zI (j : Int)), some (zI (o : Int)), d] [] σ = _
    rw [X166_14, zgd_pos (by omega), toNat_n, (hC.2.1 j hj6).2.2, if_pos hl.2, s35 (by omega) (by omega), zbI_some, zgd_pos (by omega), toNat_n, hA j o hl]
    unfold fHt
    by_cases q : Hits S (5 * j + o) (sP S (5 * j + o))
    · rw [q1 q, zbI_some, if_neg i10, if_pos q, zw_nat1 (by omega), zw_id (x := a + 1) (by omega) (by omega)]
    · rw [q2 q, zbI_some, if_pos rfl, if_neg q, zw_nat1 (by omega)]
  · intro j a d hj hi
    have hj6 := hG.j6 (nJ_lt.mp hj)
    have h5 : nO S j ≤ 5 := by have := (hG.2.1 j (nJ_lt.mp hj)).2.2; unfold nO; omega
    refine ⟨⟨(some (zI ((nO S j : Nat) : Int)), d), ?_⟩, by omega⟩
    show zE 166 14 [some (zR 2), some (zI a), some (zI (j : Int)), some (zI ((nO S j : Nat) : Int)), d] [] σ = _
    rw [X166_14, zgd_pos (by omega), toNat_n, (hC.2.1 j hj6).2.2, if_neg (by unfold nO; omega), zw_nat1 (by omega)]
  · intro a d hi
    show zE 166 4 [some (zR 2), some (zI a), some (zI ((nJ S : Nat) : Int)), d.1, d.2] [] σ = _
    rw [X166_4, if_neg (by rw [hC.1.2.1]; have := hG.1.2.1; unfold nJ; omega)]
