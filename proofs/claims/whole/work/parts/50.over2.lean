/-! ===== 50: bestOvertime on the model's side ===== -/
theorem m102 {τ : zSt} (hG : Good (τ 65)) (r : Int) : ∃ τ', zE 102 36 [some (zR 9), some (zI r), some (zI (-1)), some (zI (ltS (mpS (τ 65) r) 3)), some (zI 0), none, none] [] τ = zRI (fA (τ 65) (fOv (τ 65) r) (-1, ltS (mpS (τ 65) r) 3)).1 τ' ∧ Fk τ τ' := by
  have key := zloop2 (α := Int × Int) (D := {s : zSt // Fk τ s} × Option zVal × Option zVal) (E := {s : zSt // Fk τ s} × Option zVal) (R := Int → Prop) (nJ (τ 65)) (nO (τ 65)) (fOv (τ 65) r)
    (fun j a d v => ∃ τ', zE 102 36 [some (zR 9), some (zI r), some (zI a.1), some (zI a.2), some (zI (j : Int)), d.2.1, d.2.2] [] d.1.val = zRI v τ' ∧ Fk τ τ')
    (fun j o a d v => ∃ τ', zE 102 50 [some (zR 9), some (zI r), some (zI a.1), some (zI a.2), some (zI (j : Int)), some (zI (o : Int)), d.2] [] d.1.val = zRI v τ' ∧ Fk τ τ')
    (fun a v => v = a.1) (fun _ _ _ => True) ?_ ?_ ?_ ?_ (-1, ltS (mpS (τ 65) r) 3) (⟨τ, Fk.rf _⟩, none, none) trivial
  · have h := congrFun key.1 (fJ (nO (τ 65)) (fOv (τ 65) r) (nJ (τ 65)) (-1, ltS (mpS (τ 65) r) 3)).1
    have h2 := h.mpr rfl
    exact h2
  · intro j a d hj _
    refine ⟨(d.1, d.2.2), ?_⟩
    have h65 : d.1.val 65 = τ 65 := d.1.property 65 (by decide)
    funext v
    show (∃ σ', zE 102 36 _ _ _ = _ ∧ _) = (∃ σ', zE 102 50 _ _ _ = _ ∧ _)
    rw [X102_36, h65, if_pos (nJ_lt.mp hj)]
    rfl
  · intro j o a d hj ho _
    have hl := liveN hj ho
    have hj6 := hG.j6 hl.1
    have ho5 := hG.o5 hl
    have g5 := (hG.2.2.1 j o hl.1 hl.2).2
    have h65 : d.1.val 65 = τ 65 := d.1.property 65 (by decide)
    have stp : ∃ (τ1 : zSt) (p : Option zVal), Fk τ τ1 ∧ zE 102 50 [some (zR 9), some (zI r), some (zI a.1), some (zI a.2), some (zI (j : Int)), some (zI (o : Int)), d.2] [] d.1.val = zE 102 50 [some (zR 9), some (zI r), some (zI (fOv (τ 65) r j o a).1), some (zI (fOv (τ 65) r j o a).2), some (zI (j : Int)), some (zI ((o + 1 : Nat) : Int)), p] [] τ1 := by
      rw [X102_50, s42_2 hj6, zbI_some, h65, if_pos hl.2, s44_1 hj6 ho5, zbI_some, h65]
      by_cases q : sU (τ 65) (5 * j + o) ≤ 1
      · refine ⟨d.1.val, d.2, d.1.property, ?_⟩
        rw [if_pos q, zw_nat1 (by omega)]
        unfold fOv
        rw [if_neg (c := 1 < sU (τ 65) (5 * j + o) ∧ ovL (τ 65) r (5 * j + o) < a.2) (by omega)]
      · have b2 : (((23 + 4 * (5 * j + o) : Nat) : Int) + 1).toNat = 24 + 4 * (5 * j + o) := by omega
        have b3 : τ 65 (24 + 4 * (5 * j + o)) = sU (τ 65) (5 * j + o) := rfl
        have z1 : zup d.1.val 65 (24 + 4 * (5 * j + o)) (sU (τ 65) (5 * j + o) - 1) = zset d.1.val 65 (ovD (τ 65) (5 * j + o)) := by
          rw [zup_set, h65]; rfl
        obtain ⟨τ1, e1, f1⟩ := m96 (τ := zset d.1.val 65 (ovD (τ 65) (5 * j + o))) (by rw [zset_at]; exact ovD_good hG hl (by omega)) r
        rw [zset_at] at e1
        have k1 : τ1 65 = ovD (τ 65) (5 * j + o) := by rw [f1 65 (by decide), zset_at]
        have k2 : ovD (τ 65) (5 * j + o) (24 + 4 * (5 * j + o)) = sU (τ 65) (5 * j + o) - 1 := rset_eq rfl
        have fin : Fk τ (zup τ1 65 (24 + 4 * (5 * j + o)) (sU (τ 65) (5 * j + o))) := by
          intro k hk
          by_cases e : k = 65
          · subst e
            funext x
            by_cases ex : x = 24 + 4 * (5 * j + o)
            · rw [ex, zup_at]; rfl
            · rw [zup_of (by omega), k1]
              exact rset_of ex
          · rw [zup_off e, f1 k hk, zset_ne _ _ e]
            exact d.1.property k hk
        rw [if_neg q, s43 hj6 ho5, zbI_some, zw_id (x := ((23 + 4 * (5 * j + o) : Nat) : Int) + 1) (by omega) (by omega), zgd_pos (by omega), zgd_pos (by omega), b2, h65, b3, zw_id (x := sU (τ 65) (5 * j + o) - 1) (by omega) (by omega), z1, e1, zbI_some, s43 hj6 ho5, zbI_some, zw_id (x := ((23 + 4 * (5 * j + o) : Nat) : Int) + 1) (by omega) (by omega), zgd_pos (by omega), zgd_pos (by omega), b2, k1, k2, zw_id (x := sU (τ 65) (5 * j + o) - 1 + 1) (by omega) (by omega), show sU (τ 65) (5 * j + o) - 1 + 1 = sU (τ 65) (5 * j + o) by omega, X102_136, X102_136, zw_nat1 (by omega), zw_id (x := 10 * (j : Int)) (by omega) (by omega), zw_id (x := 10 * (j : Int) + o) (by omega) (by omega)]
        refine ⟨_, some (zI (ovL (τ 65) r (5 * j + o))), fin, ?_⟩
        have e3 : ltS (mpS (ovD (τ 65) (5 * j + o)) r) 3 = ovL (τ 65) r (5 * j + o) := rfl
        rw [e3]
        unfold fOv
        by_cases q2 : ovL (τ 65) r (5 * j + o) < a.2
        · rw [if_pos q2, if_pos q2, if_pos (c := 1 < sU (τ 65) (5 * j + o) ∧ ovL (τ 65) r (5 * j + o) < a.2) ⟨by omega, q2⟩]
        · rw [if_neg q2, if_neg q2, if_neg (c := 1 < sU (τ 65) (5 * j + o) ∧ ovL (τ 65) r (5 * j + o) < a.2) (fun w => q2 w.2)]
    obtain ⟨τ1, p, f2, e2⟩ := stp
    refine ⟨⟨(⟨τ1, f2⟩, p), ?_⟩, trivial⟩
    funext v
    show (∃ σ', zE 102 50 _ _ _ = _ ∧ _) = (∃ σ', zE 102 50 _ _ _ = _ ∧ _)
    rw [e2]
  · intro j a d hj _
    have hj6 := hG.j6 (nJ_lt.mp hj)
    have h5 : nO (τ 65) j ≤ 5 := by have := (hG.2.1 j (nJ_lt.mp hj)).2.2; unfold nO; omega
    have h65 : d.1.val 65 = τ 65 := d.1.property 65 (by decide)
    refine ⟨⟨(d.1, some (zI ((nO (τ 65) j : Nat) : Int)), d.2), ?_⟩, trivial⟩
    funext v
    show (∃ σ', zE 102 50 _ _ _ = _ ∧ _) = (∃ σ', zE 102 36 _ _ _ = _ ∧ _)
    rw [X102_50, s42_2 hj6, zbI_some, h65, if_neg (by unfold nO; omega), zw_nat1 (by omega)]
  · intro a d _
    have h65 : d.1.val 65 = τ 65 := d.1.property 65 (by decide)
    funext v
    show (∃ σ', zE 102 36 _ _ _ = _ ∧ _) = (v = a.1)
    rw [X102_36, h65, if_neg (by have := hG.1.2.1; unfold nJ; omega)]
    refine propext ⟨fun ⟨σ', e1, e2⟩ => ?_, fun e => ⟨d.1.val, by rw [e], d.1.property⟩⟩
    cases e1; rfl
theorem f_bestOvertime {σ τ : zSt} {S : Row} {c : Nat} {H : Nat → Row} {t : Nat} {T : Row} {B : Int} (h : RC σ S c H t T) (g : RM τ S c H t T) (a : RA S c H t T B) (r : Int) : Both [1] (zE 21 0 [some (zR 0), some (zI r), none, none, none, none, none] [] σ) (zE 102 0 [some (zR 9), some (zI r), none, none, none, none, none] [] τ) σ τ S c H t T B := by
  have hG := a.1.1
  rw [X21_0, s34, zbI_some, X102_0, s69, zbI_some, X102_13, zup_at]
  by_cases c1 : 0 ≤ r ∧ r ≤ 3
  · obtain ⟨σ1, e1, f1⟩ := c132 h.cs hG r
    obtain ⟨σ2, e2, f2⟩ := c21 (h.cs.same f1.shop) hG r
    obtain ⟨τ1, e3, f3⟩ := m96 (τ := zup τ 9 0 0) (by rw [zup9_65, g.1]; exact hG) r
    have k1 : τ1 65 = S := by rw [f3 65 (by decide), zup9_65, g.1]
    rw [zup9_65, g.1] at e3
    obtain ⟨τ2, e4, f4⟩ := m102 (τ := τ1) (by rw [k1]; exact hG) r
    rw [k1] at e4
    simp only [if_pos c1, if_neg i10, Int.le_refl, if_true]
    rw [e1, zbI_some, e2, e3, zbI_some, e4]
    exact Both.w h g a _ rfl (f1.trans f2) rfl (f3.trans f4)
  · simp only [if_neg c1, if_true]
    exact bad3 g 0 1 rfl
