/-! ===== 49: bestOvertime ===== -/
/-- one hour less for the operation -/
def ovD (S : Row) (i : Nat) : Row := rset S (24 + 4 * i) (sU S i - 1)
theorem ovD_good {S : Row} (hG : Good S) {j o : Nat} (hl : Live S j o) (h1 : 1 < sU S (5 * j + o)) : Good (ovD S (5 * j + o)) := by
  have g := (ovtS_ok (B := 0) hG hl h1).1
  have e : ∀ k, k ≠ 3 → k ≠ 4 → ovD S (5 * j + o) k = ovtS S j o k := fun k a1 a2 => by
    unfold ovtS
    rw [rset_of a1, rset_of a2]; rfl
  refine ⟨⟨by rw [e 0 (by omega) (by omega)]; exact g.1.1, by rw [e 1 (by omega) (by omega)]; exact g.1.2.1, by rw [e 2 (by omega) (by omega)]; exact g.1.2.2.1, by
    have : ovD S (5 * j + o) 3 = S 3 := rset_of (by omega)
    rw [this]; exact hG.1.2.2.2⟩, fun j' hj' => ?_, fun j' o' hj' ho' => ?_, fun b hb => ?_⟩
  · rw [e 1 (by omega) (by omega)] at hj'
    unfold rW rD rO
    rw [e _ (by omega) (by omega), e _ (by omega) (by omega), e _ (by omega) (by omega)]
    exact g.2.1 j' hj'
  · rw [e 1 (by omega) (by omega)] at hj'
    unfold rO at ho'
    rw [e _ (by omega) (by omega)] at ho'
    unfold sM sU
    rw [e _ (by omega) (by omega), e _ (by omega) (by omega)]
    exact g.2.2.1 j' o' hj' ho'
  · rw [e 2 (by omega) (by omega)] at hb
    unfold bM bF bL
    rw [e _ (by omega) (by omega), e _ (by omega) (by omega), e _ (by omega) (by omega)]
    exact g.2.2.2 b hb
theorem CS.less {σ : zSt} {S : Row} (hC : CS σ S) {i : Nat} (hi : i < 30) : CS (zup σ 14 i (sU S i - 1)) (ovD S i) := by
  have lo : ∀ k, k ≠ 24 + 4 * i → ovD S i k = S k := fun k hk => rset_of hk
  have off : ∀ k, k ≠ 14 → (zup σ 14 i (sU S i - 1)) k = σ k := fun k hk => zup_off hk
  refine ⟨⟨by rw [off 2 (by decide), lo 0 (by omega)]; exact hC.1.1, by rw [off 2 (by decide), lo 1 (by omega)]; exact hC.1.2.1, by rw [off 2 (by decide), lo 2 (by omega)]; exact hC.1.2.2⟩, fun j hj => ?_, fun i' hi' => ?_, fun b hb => ?_⟩
  · unfold rW rD rO
    rw [off 10 (by decide), off 11 (by decide), off 12 (by decide), lo _ (by omega), lo _ (by omega), lo _ (by omega)]
    exact hC.2.1 j hj
  · have em : sM (ovD S i) i' = sM S i' := lo _ (by omega)
    rw [off 13 (by decide), em]
    refine ⟨(hC.2.2.1 i' hi').1, ?_⟩
    by_cases e : i' = i
    · rw [e, zup_at]
      exact (rset_eq rfl).symm
    · have eu : sU (ovD S i) i' = sU S i' := lo _ (by omega)
      rw [zup_of (by omega), eu]
      exact (hC.2.2.1 i' hi').2
  · unfold bM bF bL
    rw [off 15 (by decide), off 16 (by decide), off 17 (by decide), lo _ (by omega), lo _ (by omega), lo _ (by omega)]
    exact hC.2.2.2 b hb
/-- the lateness with an hour less -/
noncomputable def ovL (S : Row) (r : Int) (i : Nat) : Int := ltS (mpS (ovD S i) r) 3
theorem c31 {σ : zSt} {S : Row} (hC : CS σ S) (hG : Good S) {j o : Nat} (hl : Live S j o) (r : Int) : ∃ σ', zE 31 0 [some (zR 0), some (zI ((5 * j + o : Nat) : Int)), some (zI r), none] [] σ = zRI (if sU S (5 * j + o) ≤ 1 then ltS (mpS S r) 3 else ovL S r (5 * j + o)) σ' ∧ Fr3 σ σ' := by
  have hj6 := hG.j6 hl.1
  have ho5 := hG.o5 hl
  have g5 := (hG.2.2.1 j o hl.1 hl.2).2
  have k1 : σ 14 (5 * j + o) = sU S (5 * j + o) := (hC.2.2.1 (5 * j + o) (by omega)).2
  rw [X31_0, zgd_pos (by omega), toNat_n, k1]
  by_cases q : sU S (5 * j + o) ≤ 1
  · rw [if_pos q, if_pos q]
    obtain ⟨σ', e1, e2⟩ := c132 hC hG r
    rw [e1, zbI_some]
    exact ⟨σ', rfl, e2⟩
  · rw [if_neg q, if_neg q, zgd_pos (by omega), zgd_pos (by omega), zw_id (x := sU S (5 * j + o) - 1) (by omega) (by omega)]
    obtain ⟨σ', e1, e2⟩ := c132 (hC.less (i := 5 * j + o) (by omega)) (ovD_good hG hl (by omega)) r
    have k2 : σ' 14 (5 * j + o) = sU S (5 * j + o) - 1 := by rw [e2 14 (by decide) (by decide) (by decide), zup_at]
    rw [e1, zbI_some, zgd_pos (by omega), zgd_pos (by omega), k2, zw_id (x := sU S (5 * j + o) - 1 + 1) (by omega) (by omega), show sU S (5 * j + o) - 1 + 1 = sU S (5 * j + o) by omega]
    refine ⟨_, rfl, fun k a1 a2 a3 => ?_⟩
    by_cases e : k = 14
    · subst e
      funext x
      by_cases ex : x = 5 * j + o
      · rw [ex, zup_at, k1]
      · rw [zup_of (by omega), e2 14 (by decide) (by decide) (by decide), zup_of (by omega)]
    · rw [zup_off e, e2 k a1 a2 a3, zup_off e]
/-- a better hour -/
noncomputable def fOv (S : Row) (r : Int) (j o : Nat) (a : Int × Int) : Int × Int := if 1 < sU S (5 * j + o) ∧ ovL S r (5 * j + o) < a.2 then (10 * j + o, ovL S r (5 * j + o)) else a
theorem c21 {σ : zSt} {S : Row} (hC : CS σ S) (hG : Good S) (r : Int) : ∃ σ', zE 21 31 [some (zR 0), some (zI r), some (zI (-1)), some (zI (ltS (mpS S r) 3)), some (zI 0), none, none] [] σ = zRI (fA S (fOv S r) (-1, ltS (mpS S r) 3)).1 σ' ∧ Fr3 σ σ' := by
  have key := zloop2 (α := Int × Int) (D := {s : zSt // Fr3 σ s} × Option zVal × Option zVal) (E := {s : zSt // Fr3 σ s} × Option zVal) (R := Int → Prop) (nJ S) (nO S) (fOv S r)
    (fun j a d v => ∃ σ', zE 21 31 [some (zR 0), some (zI r), some (zI a.1), some (zI a.2), some (zI (j : Int)), d.2.1, d.2.2] [] d.1.val = zRI v σ' ∧ Fr3 σ σ')
    (fun j o a d v => ∃ σ', zE 21 46 [some (zR 0), some (zI r), some (zI a.1), some (zI a.2), some (zI (j : Int)), some (zI (o : Int)), d.2] [] d.1.val = zRI v σ' ∧ Fr3 σ σ')
    (fun a v => v = a.1) (fun _ _ a => a.2 ≤ ltS (mpS S r) 3) ?_ ?_ ?_ ?_ (-1, ltS (mpS S r) 3) (⟨σ, Fr3.rf _⟩, none, none) (Int.le_refl _)
  · have h := congrFun key.1 (fJ (nO S) (fOv S r) (nJ S) (-1, ltS (mpS S r) 3)).1
    have h2 := h.mpr rfl
    exact h2
  · intro j a d hj _
    refine ⟨(d.1, d.2.2), ?_⟩
    have hC' := hC.same d.1.property.shop
    funext v
    show (∃ σ', zE 21 31 _ _ _ = _ ∧ _) = (∃ σ', zE 21 46 _ _ _ = _ ∧ _)
    rw [X21_31, if_pos (by rw [hC'.1.2.1]; exact nJ_lt.mp hj)]
    rfl
  · intro j o a d hj ho hi
    have hl := liveN hj ho
    have hj6 := hG.j6 hl.1
    have ho5 := hG.o5 hl
    have hC' := hC.same d.1.property.shop
    obtain ⟨σ1, e1, f1⟩ := c31 hC' hG hl r
    have f2 : Fr3 σ σ1 := d.1.property.trans f1
    have e35 := s35 (j := j) (o := o) (by omega) (by omega) d.1.val
    have stp : ∃ p, zE 21 46 [some (zR 0), some (zI r), some (zI a.1), some (zI a.2), some (zI (j : Int)), some (zI (o : Int)), d.2] [] d.1.val = zE 21 46 [some (zR 0), some (zI r), some (zI (fOv S r j o a).1), some (zI (fOv S r j o a).2), some (zI (j : Int)), some (zI ((o + 1 : Nat) : Int)), p] [] σ1 := by
      refine ⟨some (zI (if sU S (5 * j + o) ≤ 1 then ltS (mpS S r) 3 else ovL S r (5 * j + o))), ?_⟩
      rw [X21_46, zgd_pos (by omega), toNat_n, (hC'.2.1 j hj6).2.2, if_pos hl.2, e35, zbI_some, e1, zbI_some, zw_nat1 (by omega), zw_id (x := 10 * (j : Int)) (by omega) (by omega), zw_id (x := 10 * (j : Int) + o) (by omega) (by omega)]
      unfold fOv
      by_cases q : sU S (5 * j + o) ≤ 1
      · rw [if_pos q, if_neg (c := 1 < sU S (5 * j + o) ∧ ovL S r (5 * j + o) < a.2) (by omega), if_neg (by omega)]
      · rw [if_neg q]
        by_cases q2 : ovL S r (5 * j + o) < a.2
        · rw [if_pos q2, if_pos (c := 1 < sU S (5 * j + o) ∧ ovL S r (5 * j + o) < a.2) ⟨by omega, q2⟩]
        · rw [if_neg q2, if_neg (c := 1 < sU S (5 * j + o) ∧ ovL S r (5 * j + o) < a.2) (fun w => q2 w.2)]
    obtain ⟨p, e2⟩ := stp
    refine ⟨⟨(⟨σ1, f2⟩, p), ?_⟩, ?_⟩
    · funext v
      show (∃ σ', zE 21 46 _ _ _ = _ ∧ _) = (∃ σ', zE 21 46 _ _ _ = _ ∧ _)
      rw [e2]
    · unfold fOv
      split
      · rename_i w
        have := w.2
        dsimp only
        omega
      · exact hi
  · intro j a d hj hi
    have hj6 := hG.j6 (nJ_lt.mp hj)
    have h5 : nO S j ≤ 5 := by have := (hG.2.1 j (nJ_lt.mp hj)).2.2; unfold nO; omega
    have hC' := hC.same d.1.property.shop
    refine ⟨⟨(d.1, some (zI ((nO S j : Nat) : Int)), d.2), ?_⟩, hi⟩
    funext v
    show (∃ σ', zE 21 46 _ _ _ = _ ∧ _) = (∃ σ', zE 21 31 _ _ _ = _ ∧ _)
    rw [X21_46, zgd_pos (by omega), toNat_n, (hC'.2.1 j hj6).2.2, if_neg (by unfold nO; omega), zw_nat1 (by omega)]
  · intro a d hi
    have hC' := hC.same d.1.property.shop
    funext v
    show (∃ σ', zE 21 31 _ _ _ = _ ∧ _) = (v = a.1)
    rw [X21_31, if_neg (by rw [hC'.1.2.1]; have := hG.1.2.1; unfold nJ; omega)]
    refine propext ⟨fun ⟨σ', e1, e2⟩ => ?_, fun e => ⟨d.1.val, by rw [e], d.1.property⟩⟩
    cases e1; rfl
