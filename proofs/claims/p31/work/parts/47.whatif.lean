/-! ===== 47: what-ifs: latenessBy, bestRule, latenessShifted, bestReplan ===== -/
theorem CS.mp {σ : zSt} {S : Row} (h : CS σ S) (hG : Good S) (rule : Int) : CS σ (mpS S rule) := by
  refine ⟨⟨by rw [mpS_off hG (by omega) (by omega)]; exact h.1.1, by rw [mpS_off hG (by omega) (by omega)]; exact h.1.2.1, by rw [mpS_off hG (by omega) (by omega)]; exact h.1.2.2⟩, fun j hj => ?_, fun i hi => ?_, fun b hb => ?_⟩
  · unfold rW rD rO; rw [mpS_off hG (by omega) (by omega), mpS_off hG (by omega) (by omega), mpS_off hG (by omega) (by omega)]; exact h.2.1 j hj
  · unfold sM sU; rw [mpS_off hG (by omega) (by omega), mpS_off hG (by omega) (by omega)]; exact h.2.2.1 i hi
  · unfold bM bF bL; rw [mpS_off hG (by omega) (by omega), mpS_off hG (by omega) (by omega), mpS_off hG (by omega) (by omega)]; exact h.2.2.2 b hb
theorem c132 {σ : zSt} {S : Row} (hC : CS σ S) (hG : Good S) (rule : Int) : ∃ σ', zE 132 0 [some (zR 1), some (zI rule)] [] σ = zRI (ltS (mpS S rule) 3) σ' ∧ Fr3 σ σ' := by
  obtain ⟨f1, f2, f3⟩ := fill0_ok hG rule
  obtain ⟨σ1, e1, fr, hD⟩ := s134 (hC.of (clrS_staP S).sta) ((clrS_staP S).sta.good hG) (clrS_clr hG) rule
  have hdr : ∀ j o, Live S j o → σ1 60 (5 * j + o) = sP (nwF S rule) (5 * j + o) := by
    intro j o hl
    have hj : (j : Int) < (fillM rule 0 30 (clrS S)) 1 := by rw [f2.sta.k1]; exact hl.1
    exact (hD.1 j hj).2 o (by rw [f3 j (nJ_lt.mpr hl.1)]; exact nO_lt.mpr hl.2)
  have hC1 : CS σ1 (mpS S rule) := (hC.same fr.shop).mp hG rule
  rw [X132_0, e1, zbV_some, X131_0, s161 hC1 (mpS_good hG) (p := 3) (k := 60) (by rfl) (fun j o hl => by
    have hl2 := (mpS_lv hG j o).mp hl
    rw [hdr j o hl2]; exact (mpS_live hG hl2).2.symm), zbI_some, zbI_some]
  exact ⟨_, rfl, fr⟩
theorem cpw_id {S X R : Row} (h : ∀ k, 161 ≤ k → R k = S k) : cpw (cpw S 0 X 0 161) 0 R 0 161 = S := by
  funext x
  unfold cpw
  by_cases c : x < 161
  · rw [if_pos (by omega), if_pos (by omega)]
    rw [show 0 + (0 + (x - 0) - 0) = x by omega]
  · rw [if_neg (by omega)]; exact h x (by omega)
/-- only the kept copy may have changed -/
def Fk (τ τ' : zSt) : Prop := ∀ k : Nat, k ≠ 66 → τ' k = τ k
theorem Fk.rf (τ : zSt) : Fk τ τ := fun _ _ => rfl
theorem Fk.trans {a b c : zSt} (h : Fk a b) (h' : Fk b c) : Fk a c := fun k hk => (h' k hk).trans (h k hk)
/-- the best of rules l, l + 1 .. 3 and b -/
noncomputable def bst4 (L : Int → Int) : Nat → Int → Int → Int
  | 0, _, b => b
  | d + 1, l, b => bst4 L d (l + 1) (if L l < L b then l else b)
theorem c18 {S : Row} (hG : Good S) : ∀ (d : Nat) (l b : Int) (σ : zSt) (o4 : Option zVal), l + d = 4 → 0 ≤ l → CS σ S → ∃ σ', zE 18 13 [some (zR 0), some (zI b), some (zI (ltS (mpS S b) 3)), some (zI l), o4] [] σ = zRI (bst4 (fun r => ltS (mpS S r) 3) d l b) σ' ∧ Fr3 σ σ' := by
  intro d
  induction d with
  | zero =>
    intro l b σ o4 hl h0 hC
    rw [X18_13, if_neg (by omega)]
    exact ⟨σ, rfl, Fr3.rf _⟩
  | succ d ih =>
    intro l b σ o4 hl h0 hC
    obtain ⟨σ1, e1, f1⟩ := c132 hC hG l
    rw [X18_13, if_pos (by omega), e1, zbI_some, zw_id (x := l + 1) (by omega) (by omega)]
    show ∃ σ', _ = zRI (bst4 (fun r => ltS (mpS S r) 3) d (l + 1) (if ltS (mpS S l) 3 < ltS (mpS S b) 3 then l else b)) σ' ∧ _
    by_cases q : ltS (mpS S l) 3 < ltS (mpS S b) 3
    · rw [if_pos q, if_pos q]
      obtain ⟨σ2, e2, f2⟩ := ih (l + 1) l σ1 (some (zI (ltS (mpS S l) 3))) (by omega) (by omega) (hC.same f1.shop)
      exact ⟨σ2, e2, f1.trans f2⟩
    · rw [if_neg q, if_neg q]
      obtain ⟨σ2, e2, f2⟩ := ih (l + 1) b σ1 (some (zI (ltS (mpS S l) 3))) (by omega) (by omega) (hC.same f1.shop)
      exact ⟨σ2, e2, f1.trans f2⟩
theorem s131 {σ : zSt} {R : Row} (hC : CS σ R) (hG : Good R) (hA : ∀ j o, Live R j o → σ 60 (5 * j + o) = sP R (5 * j + o)) : zE 131 0 [some (zR 1)] [] σ = zRI (ltS R 3) σ := by
  rw [X131_0, s161 hC hG (p := 3) (k := 60) (by rfl) hA, zbI_some]
