/-! ===== 48: bestReplan; append, clearText ===== -/
theorem c133 {σ : zSt} {S : Row} (hC : CS σ S) (hG : Good S) {B : Int} (hP : PP S B) {m : Int} (hm : 0 ≤ m ∧ m ≤ B) (hB2 : 550 ≤ B ∧ B ≤ 700000) (hA : ∀ j o, Live S j o → σ 19 (5 * j + o) = sP S (5 * j + o)) (stR : ∀ r, StaP S (paS S m r)) (r : Int) : ∃ σ', zE 133 0 [some (zR 1), some (zI m), some (zI r)] [] σ = zRI (ltS (paS S m r) 3) σ' ∧ Fr3 σ σ' := by
  obtain ⟨σ2, e2, fr2, hD⟩ := s135 (rule := r) hC hG hP hm hB2 hA
  have hpb := kpS_pb hG hP m (by omega)
  have stk := kpS_staP S m
  obtain ⟨_, _, hall⟩ := fillM_ok (stk.sta.good hG) hpb (rule := r) (moment := m) hm hB2
  rw [X133_0, e2, zbV_some, s131 ((hC.same fr2.shop).of (stR r).sta) ((stR r).sta.good hG) (fun j o hl => by
    have hl2 := ((stR r).sta.live hG j o).mp hl
    refine (hD.1 j (by rw [(stR r).sta.k1]; exact hl2.1)).2 o ?_
    have q := hall j (by rw [stk.sta.nj]; exact nJ_lt.mpr hl2.1)
    rw [stk.sta.no (hG.j6 hl2.1)] at q
    show o < nxt (fillM r m 30 (kpS S m)) j
    rw [q]; exact nO_lt.mpr hl2.2), zbI_some]
  exact ⟨σ2, rfl, fr2⟩
theorem c20 {S : Row} (hG : Good S) {B : Int} (hP : PP S B) {m : Int} (hm : 0 ≤ m ∧ m ≤ B) (hB2 : 550 ≤ B ∧ B ≤ 700000) (stR : ∀ r, StaP S (paS S m r)) : ∀ (d : Nat) (l b : Int) (σ : zSt) (o5 : Option zVal), l + d = 4 → 0 ≤ l → CS σ S → (∀ j o, Live S j o → σ 19 (5 * j + o) = sP S (5 * j + o)) → ∃ σ', zE 20 48 [some (zR 0), some (zI m), some (zI b), some (zI (ltS (paS S m b) 3)), some (zI l), o5] [] σ = zRI (zw (zw (1000000 * bst4 (fun r => ltS (paS S m r) 3) d l b) + min (ltS (paS S m (bst4 (fun r => ltS (paS S m r) 3) d l b)) 3) 999999)) σ' ∧ Fr3 σ σ' := by
  intro d
  induction d with
  | zero =>
    intro l b σ o5 hl h0 hC hA
    rw [X20_48, if_neg (by omega)]
    exact ⟨σ, rfl, Fr3.rf _⟩
  | succ d ih =>
    intro l b σ o5 hl h0 hC hA
    obtain ⟨σ1, e1, f1⟩ := c133 hC hG hP hm hB2 hA stR l
    have hA1 : ∀ j o, Live S j o → σ1 19 (5 * j + o) = sP S (5 * j + o) := fun j o hl => by rw [f1 19 (by decide) (by decide) (by decide)]; exact hA j o hl
    have eb : bst4 (fun r => ltS (paS S m r) 3) (d + 1) l b = bst4 (fun r => ltS (paS S m r) 3) d (l + 1) (if ltS (paS S m l) 3 < ltS (paS S m b) 3 then l else b) := rfl
    rw [X20_48, if_pos (by omega), e1, zbI_some, zw_id (x := l + 1) (by omega) (by omega), eb]
    by_cases q : ltS (paS S m l) 3 < ltS (paS S m b) 3
    · rw [if_pos q, if_pos q]
      obtain ⟨σ2, e2, f2⟩ := ih (l + 1) l σ1 (some (zI (ltS (paS S m l) 3))) (by omega) (by omega) (hC.same f1.shop) hA1
      exact ⟨σ2, e2, f1.trans f2⟩
    · rw [if_neg q, if_neg q]
      obtain ⟨σ2, e2, f2⟩ := ih (l + 1) b σ1 (some (zI (ltS (paS S m l) 3))) (by omega) (by omega) (hC.same f1.shop) hA1
      exact ⟨σ2, e2, f1.trans f2⟩
