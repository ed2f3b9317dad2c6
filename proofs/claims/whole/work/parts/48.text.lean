/-! ===== 48: bestReplan; append, clearText ===== -/
theorem c133 {σ : zSt} {S : Row} (hC : CS σ S) (hG : Good S) {B : Int} (hP : PP S B) {m : Int} (hm : 0 ≤ m ∧ m ≤ B) (hB2 : 550 ≤ B ∧ B ≤ 700000) (hA : ∀ j o, Live S j o → σ 19 (5 * j + o) = sP S (5 * j + o)) (stR : ∀ r, StaP S (paS S m r)) (r : Int) : ∃ σ', zE 133 0 [some (zR 1), some (zI m), some (zI r)] [] σ = zRI (ltS (paS S m r) 3) σ' ∧ Fr3 σ σ' := by
  obtain ⟨σ2, e2, fr2, hD⟩ := s135 (rule := r) hC hG hP hm hB2 hA
  have hpb := kpS_pb hG hP m (by omega)
  have stk := kpS_staP S m
  obtain ⟨_, _, hall⟩ := fillM_ok (stk.sta.good hG) hpb (rule := r) (moment := m) hm hB2
  rw [X133_0, e2, zbV_some, s131 ((hC.same fr2.shop).of (stR r).sta) ((stR r).sta.good hG) (fun j o hl => by
    have hl2 := ((stR r).sta.live hG j o).mp hl
    refine (hD.1 j (by rw [(stR r).sta.k1]; exact hl2.1)).2 o ?_
    have q := hall j (by rw [stk.sta.nj]; exact nJ_lt.mpr hl2.1)
    rw [stk.sta.no (hG.j6 hl2.1)] at q
    show o < nxt (fillM r m 30 (kpS S m)) j
    rw [q]; exact nO_lt.mpr hl2.2), zbI_some]
  exact ⟨σ2, rfl, fr2⟩
theorem c20 {S : Row} (hG : Good S) {B : Int} (hP : PP S B) {m : Int} (hm : 0 ≤ m ∧ m ≤ B) (hB2 : 550 ≤ B ∧ B ≤ 700000) (stR : ∀ r, StaP S (paS S m r)) : ∀ (d : Nat) (l b : Int) (σ : zSt) (o5 : Option zVal), l + d = 4 → 0 ≤ l → CS σ S → (∀ j o, Live S j o → σ 19 (5 * j + o) = sP S (5 * j + o)) → ∃ σ', zE 20 48 [some (zR 0), some (zI m), some (zI b), some (zI (ltS (paS S m b) 3)), some (zI l), o5] [] σ = zRI (zw (zw (1000000 * bst4 (fun r => ltS (paS S m r) 3) d l b) + min (ltS (paS S m (bst4 (fun r => ltS (paS S m r) 3) d l b)) 3) 999999)) σ' ∧ Fr3 σ σ' := by
  intro d
  induction d with
  | zero =>
    intro l b σ o5 hl h0 hC hA
    rw [X20_48, if_neg (by omega)]
    exact ⟨σ, rfl, Fr3.rf _⟩
  | succ d ih =>
    intro l b σ o5 hl h0 hC hA
    obtain ⟨σ1, e1, f1⟩ := c133 hC hG hP hm hB2 hA stR l
    have hA1 : ∀ j o, Live S j o → σ1 19 (5 * j + o) = sP S (5 * j + o) := fun j o hl => by rw [f1 19 (by decide) (by decide) (by decide)]; exact hA j o hl
    have eb : bst4 (fun r => ltS (paS S m r) 3) (d + 1) l b = bst4 (fun r => ltS (paS S m r) 3) d (l + 1) (if ltS (paS S m l) 3 < ltS (paS S m b) 3 then l else b) := rfl
    rw [X20_48, if_pos (by omega), e1, zbI_some, zw_id (x := l + 1) (by omega) (by omega), eb]
    by_cases q : ltS (paS S m l) 3 < ltS (paS S m b) 3
    · rw [if_pos q, if_pos q]
      obtain ⟨σ2, e2, f2⟩ := ih (l + 1) l σ1 (some (zI (ltS (paS S m l) 3))) (by omega) (by omega) (hC.same f1.shop) hA1
      exact ⟨σ2, e2, f1.trans f2⟩
    · rw [if_neg q, if_neg q]
      obtain ⟨σ2, e2, f2⟩ := ih (l + 1) b σ1 (some (zI (ltS (paS S m l) 3))) (by omega) (by omega) (hC.same f1.shop) hA1
      exact ⟨σ2, e2, f1.trans f2⟩
theorem kp_in2 {τ : zSt} {X R : Row} (h6 : τ 66 = cpw (τ 65) 0 X 0 161) (h : ∀ k, 161 ≤ k → R k = τ 65 k) : zE 37 0 [some (zR 66), some (zI 0), some (zR 65), some (zI 0), none] [] (zset τ 65 R) = zRV τ := by
  rw [kp_in, zset_ne _ _ (show (66 : Nat) ≠ 65 by decide), zset_at, h6, cpw_id h, zset_set, zset_self]
theorem m101 {S X : Row} (hG : Good S) {B : Int} (hP : PP S B) {m : Int} (hm : 0 ≤ m ∧ m ≤ B) (hB2 : 550 ≤ B ∧ B ≤ 700000) (stR : ∀ r, StaP S (paS S m r)) {τ : zSt} (h5 : τ 65 = S) (h6 : τ 66 = cpw (τ 65) 0 X 0 161) (l2 l3 l4 : Int) (o5 o6 : Option zVal) (hl : 0 ≤ l4 ∧ l4 < 4) :
    ∃ p5 p6, zE 101 63 [some (zR 9), some (zI m), some (zI l2), some (zI l3), some (zI l4), o5, o6] [] τ = zE 101 63 [some (zR 9), some (zI m), some (zI (if l2 = -1 ∨ ltS (paS S m l4) 3 < l3 then l4 else l2)), some (zI (if l2 = -1 ∨ ltS (paS S m l4) 3 < l3 then ltS (paS S m l4) 3 else l3)), some (zI (l4 + 1)), p5, p6] [] τ := by
  have e4 := s75 (σ := τ) (by rw [h5]; exact hG) (B := B) (by rw [h5]; exact hP) (moment := m) (rule := l4) hm hB2
  rw [h5] at e4
  have e6 := s66 (σ := zset τ 65 (paS S m l4)) (by rw [zset_at]; exact (stR l4).sta.good hG) (p := 3) (by omega)
  rw [zset_at] at e6
  have e6' : zE 66 0 [some (zR 9), some (zI 3), none, none] [] (zset τ 65 (paS S m l4)) = zRI (ltS (paS S m l4) 3) (zset τ 65 (paS S m l4)) := e6
  have e7 := kp_in2 (τ := τ) (X := X) (R := paS S m l4) h6 (fun k hk => by rw [h5]; exact (stR l4) k (by omega))
  rw [X101_63, if_pos (by omega), e4, zbV_some, e6', zbI_some, X101_99, X101_112, X101_124, e7, zbV_some, zw_id (x := l4 + 1) (by omega) (by omega)]
  refine ⟨some (zI (ltS (paS S m l4) 3)), some (zI (if l2 = -1 then 1 else if ltS (paS S m l4) 3 < l3 then 1 else 0)), ?_⟩
  by_cases q1 : l2 = -1
  · simp only [if_pos q1, if_neg i10, q1, true_or, if_true]
  · by_cases q2 : ltS (paS S m l4) 3 < l3
    · simp only [if_neg q1, if_pos q2, if_neg i10, q1, q2, false_or, if_true, if_false]
    · simp only [if_neg q1, if_neg q2, q1, q2, false_or, if_true, if_false]
theorem m101_go {S X : Row} (hG : Good S) {B : Int} (hP : PP S B) {m : Int} (hm : 0 ≤ m ∧ m ≤ B) (hB2 : 550 ≤ B ∧ B ≤ 700000) (stR : ∀ r, StaP S (paS S m r)) {τ : zSt} (h5 : τ 65 = S) (h6 : τ 66 = cpw (τ 65) 0 X 0 161) : ∀ (d : Nat) (l b : Int) (o5 o6 : Option zVal), l + d = 4 → 0 ≤ l → 0 ≤ b → zE 101 63 [some (zR 9), some (zI m), some (zI b), some (zI (ltS (paS S m b) 3)), some (zI l), o5, o6] [] τ = zRI (zw (zw (1000000 * bst4 (fun r => ltS (paS S m r) 3) d l b) + min (ltS (paS S m (bst4 (fun r => ltS (paS S m r) 3) d l b)) 3) 999999)) τ := by
  intro d
  induction d with
  | zero =>
    intro l b o5 o6 hl h0 hb
    rw [X101_63, if_neg (by omega)]
    have e : (if ltS (paS S m b) 3 < 999999 then ltS (paS S m b) 3 else 999999) = min (ltS (paS S m b) 3) 999999 := by split <;> omega
    rw [e]
    rfl
  | succ d ih =>
    intro l b o5 o6 hl h0 hb
    obtain ⟨p5, p6, e⟩ := m101 hG hP hm hB2 stR h5 h6 b (ltS (paS S m b) 3) l o5 o6 (by omega)
    have eb : bst4 (fun r => ltS (paS S m r) 3) (d + 1) l b = bst4 (fun r => ltS (paS S m r) 3) d (l + 1) (if ltS (paS S m l) 3 < ltS (paS S m b) 3 then l else b) := rfl
    rw [e, eb]
    by_cases q : ltS (paS S m l) 3 < ltS (paS S m b) 3
    · rw [if_pos (Or.inr q), if_pos (Or.inr q), if_pos q]
      exact ih (l + 1) l p5 p6 (by omega) (by omega) (by omega)
    · rw [if_neg (c := b = -1 ∨ ltS (paS S m l) 3 < ltS (paS S m b) 3) (by omega), if_neg (c := b = -1 ∨ ltS (paS S m l) 3 < ltS (paS S m b) 3) (by omega), if_neg q]
      exact ih (l + 1) b p5 p6 (by omega) (by omega) (by omega)
theorem f_bestReplan {σ τ : zSt} {S : Row} {c : Nat} {H : Nat → Row} {t : Nat} {T : Row} {B : Int} (hB : 999 ≤ B ∧ B ≤ 700000) (h : RC σ S c H t T) (g : RM τ S c H t T) (a : RA S c H t T B) (m : Int) : Both [1] (zE 20 0 [some (zR 0), some (zI m), none, none, none, none] [] σ) (zE 101 0 [some (zR 9), some (zI m), none, none, none, none, none] [] τ) σ τ S c H t T B := by
  have hG := a.1.1
  have g3 := hG.1.2.2.2
  rw [X20_0, s33, zbI_some, X101_0, s76, zbI_some, X101_13, zup_at]
  by_cases c0 : 0 ≤ m ∧ m ≤ 999
  · rw [if_pos c0, if_neg i10, if_neg i10, if_pos (Int.le_refl 0), h.fld.2.2.2.1, s73, zbI_some, zup9_65, g.1]
    by_cases c1 : S 3 = 1
    · obtain ⟨v2, v3⟩ := a.1.2 c1
      have stR : ∀ r, StaP S (paS S m r) := fun r => (paS_ok hG v3 (rule := r) (moment := m) (by omega) (by omega)).1
      have hA : ∀ j o, Live S j o → σ 19 (5 * j + o) = sP S (5 * j + o) := fun j o hl => (h.1.2.2.2.2 c1 j o hl).2
      obtain ⟨σ1, e1, f1⟩ := c133 h.cs hG v3.pp (m := m) (by omega) (by omega) hA stR 0
      obtain ⟨σ2, e2, f2⟩ := c20 hG v3.pp (m := m) (by omega) (by omega) stR 3 1 0 σ1 none (by omega) (by omega) (h.cs.same f1.shop) (fun j o hl => by rw [f1 19 (by decide) (by decide) (by decide)]; exact hA j o hl)
      have e7 := kp_out (τ := zup τ 9 0 0)
      rw [zup9_65, g.1] at e7
      have k5 : (zset (zup τ 9 0 0) 66 (cpw S 0 ((zup τ 9 0 0) 66) 0 161)) 65 = S := by rw [zset_ne _ _ (by decide), zup9_65, g.1]
      have k6 : (zset (zup τ 9 0 0) 66 (cpw S 0 ((zup τ 9 0 0) 66) 0 161)) 66 = cpw ((zset (zup τ 9 0 0) 66 (cpw S 0 ((zup τ 9 0 0) 66) 0 161)) 65) 0 ((zup τ 9 0 0) 66) 0 161 := by rw [k5, zset_at]
      obtain ⟨p5, p6, e8⟩ := m101 hG v3.pp (m := m) (by omega) (by omega) stR k5 k6 (-1) 0 0 none none (by omega)
      have e9 := m101_go hG v3.pp (m := m) (by omega) (by omega) stR k5 k6 3 1 0 p5 p6 (by omega) (by omega) (by omega)
      rw [if_pos (Or.inl rfl), if_pos (Or.inl rfl)] at e8
      rw [if_neg (by omega), if_pos c1, if_neg i10, e1, zbI_some, e2, e7, zbV_some, e8]
      have e9' : zE 101 63 [some (zR 9), some (zI m), some (zI 0), some (zI (ltS (paS S m 0) 3)), some (zI (0 + 1)), p5, p6] [] (zset (zup τ 9 0 0) 66 (cpw S 0 ((zup τ 9 0 0) 66) 0 161)) = _ := e9
      rw [e9']
      exact Both.w h g a _ rfl (f1.trans f2) rfl (fun k hk => zset_ne _ _ hk)
    · rw [if_pos (by omega), if_neg c1, if_pos rfl, X101_30, zup_at, if_pos (Int.le_refl 0)]
      exact Both.q h g a _ rfl rfl
  · rw [if_neg c0, if_pos rfl, if_pos rfl, if_neg (show ¬ (1 : Int) ≤ 0 by decide), X101_30, zup_at, if_neg (show ¬ (1 : Int) ≤ 0 by decide)]
    exact Or.inr ⟨0, 1, _, rfl, rfl, rfl, zup_at _ _ _ _, g.nine ⟨by decide, by decide⟩, FM.nine⟩
theorem f_append {σ τ : zSt} {S : Row} {c : Nat} {H : Nat → Row} {t : Nat} {T : Row} {B : Int} (h : RC σ S c H t T) (g : RM τ S c H t T) (a : RA S c H t T B) (x : Int) : Both [1, 2] (zE 22 0 [some (zR 0), some (zI x)] [] σ) (zE 103 0 [some (zR 9), some (zI x)] [] τ) σ τ S c H t T B := by
  have ht := a.2.2.2.1
  have h8 : σ 8 1 = (t : Int) := h.2.2.2.1
  have g9 : τ 9 6 = (t : Int) := g.2.2.2.1
  rw [X22_0, s33, zbI_some, X103_0, s38, zbI_some]
  by_cases c1 : 0 ≤ x ∧ x ≤ 127
  · rw [if_pos c1, if_neg i10, if_neg i10, h8, g9, X103_29, zup_at τ 9 0]
    by_cases c2 : t < 100
    · rw [if_pos (c := (t : Int) < 100) (by omega), if_neg (show ¬ (t : Int) = 100 by omega), if_pos (Int.le_refl 0), zgd_pos (by omega), zup_of (σ := τ) (k := 9) (i := 0) (k' := 9) (i' := 6) (by omega), g9, zgd_pos (by omega), toNat_n]
      have e1 : (zup σ 64 t x) 8 1 = (t : Int) := by rw [zup_off (by decide)]; exact h8
      have e2 : (zup (zup τ 9 0 0) 68 t x) 9 6 = (t : Int) := by rw [zup_off (by decide), zup_of (by omega)]; exact g9
      rw [e1, e2, zup_at, zup_at, zw_id (x := (t : Int) + 1) (by omega) (by omega)]
      refine Or.inl ⟨(t : Int) + 1, _, _, S, c, H, t + 1, rset T t x, rfl, rfl, ?_, ?_, ?_, ?_, ?_, ?_⟩
      · rw [zup_of (by omega), zup_off (by decide), zup_at]
      · obtain ⟨h1, ⟨n, hn, h2, h3⟩, h4, h5, h6⟩ := h
        have off : ∀ k, k ≠ 8 → k ≠ 64 → (zup (zup σ 64 t x) 8 1 ((t : Int) + 1)) k = σ k := fun k a1 a2 => by rw [zup_off a1, zup_off a2]
        refine ⟨h1.seq a.1.1 (SEq.same (fun k hk => off k (by omega) (by omega))), ⟨n, hn, by rw [off 7 (by decide) (by decide)]; exact h2, fun i hi => (h3 i hi).seq (a.2.2.1 i hi).1 (SEq.same (fun k hk => off k (by omega) (by omega)))⟩, by rw [off 7 (by decide) (by decide)]; exact h4, by rw [zup_at]; omega, fun i hi => ?_⟩
        rw [zup_off (by decide)]
        by_cases e : i = t
        · rw [e, zup_at, rset_eq rfl]
        · rw [zup_of (by omega), rset_of e]; exact h6 i (by omega)
      · obtain ⟨h1, h2, h3, h4, h5⟩ := g
        refine ⟨by rw [zup_off (by decide), zup_off (by decide), zup_off (by decide)]; exact h1, by rw [zup_of (by omega), zup_off (by decide), zup_of (by omega)]; exact h2, fun i hi => by rw [zup_off (by decide), zup_off (by decide), zup_off (by decide)]; exact h3 i hi, by rw [zup_at]; omega, fun i hi => ?_⟩
        rw [zup_off (by decide)]
        by_cases e : i = t
        · rw [e, zup_at, rset_eq rfl]
        · rw [zup_of (by omega), rset_of e, zup_off (by decide)]; exact h5 i (by omega)
      · refine ⟨a.1, a.2.1, a.2.2.1, by omega, fun i hi => ?_⟩
        by_cases e : i = t
        · rw [rset_eq e]; exact c1
        · rw [rset_of e]; exact a.2.2.2.2 i (by omega)
      · exact (FC.zup ⟨by decide, by decide⟩).trans (FC.zup ⟨by decide, by decide⟩)
      · exact (FM.nine.trans (FM.zup (by decide))).trans FM.nine
    · rw [if_neg (c := (t : Int) < 100) (by omega), if_pos (show (t : Int) = 100 by omega)]
      exact bad3 g 1 2 rfl
  · rw [if_neg c1, if_pos rfl, if_pos rfl, X103_29, zup_at τ 9 0]
    exact bad3 g 0 1 rfl
theorem f_clearText {σ τ : zSt} {S : Row} {c : Nat} {H : Nat → Row} {t : Nat} {T : Row} {B : Int} (h : RC σ S c H t T) (g : RM τ S c H t T) (a : RA S c H t T B) : Both [] (zE 23 0 [some (zR 0), none] [] σ) (zE 104 0 [some (zR 9), none] [] τ) σ τ S c H t T B := by
  have h8 : σ 8 1 = (t : Int) := h.2.2.2.1
  have g9 : τ 9 6 = (t : Int) := g.2.2.2.1
  rw [X23_0, X104_0, h8, zup_of (σ := τ) (k := 9) (i := 0) (k' := 9) (i' := 6) (by omega), g9]
  refine Or.inl ⟨(t : Int), _, _, S, c, H, 0, T, rfl, rfl, ?_, ?_, ?_, ?_, ?_, ?_⟩
  · rw [zup_of (by omega), zup_at]
  · obtain ⟨h1, ⟨n, hn, h2, h3⟩, h4, h5, h6⟩ := h
    have off : ∀ k, k ≠ 8 → (zup σ 8 1 0) k = σ k := fun k a1 => by rw [zup_off a1]
    exact ⟨h1.seq a.1.1 (SEq.same (fun k hk => off k (by omega))), ⟨n, hn, by rw [off 7 (by decide)]; exact h2, fun i hi => (h3 i hi).seq (a.2.2.1 i hi).1 (SEq.same (fun k hk => off k (by omega)))⟩, by rw [off 7 (by decide)]; exact h4, by rw [zup_at]; rfl, fun i hi => by omega⟩
  · obtain ⟨h1, h2, h3, h4, h5⟩ := g
    exact ⟨by rw [zup_off (by decide), zup_off (by decide)]; exact h1, by rw [zup_of (by omega), zup_of (by omega)]; exact h2, fun i hi => by rw [zup_off (by decide), zup_off (by decide)]; exact h3 i hi, by rw [zup_at]; rfl, fun i hi => by omega⟩
  · exact ⟨a.1, a.2.1, a.2.2.1, by omega, fun i hi => by omega⟩
  · exact FC.zup ⟨by decide, by decide⟩
  · exact FM.nine.trans FM.nine
