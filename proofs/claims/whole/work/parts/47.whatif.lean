/-! ===== 47: what-ifs: latenessBy, bestRule, latenessShifted, bestReplan ===== -/
theorem CS.mp {σ : zSt} {S : Row} (h : CS σ S) (hG : Good S) (rule : Int) : CS σ (mpS S rule) := by
  refine ⟨⟨by rw [mpS_off hG (by omega) (by omega)]; exact h.1.1, by rw [mpS_off hG (by omega) (by omega)]; exact h.1.2.1, by rw [mpS_off hG (by omega) (by omega)]; exact h.1.2.2⟩, fun j hj => ?_, fun i hi => ?_, fun b hb => ?_⟩
  · unfold rW rD rO; rw [mpS_off hG (by omega) (by omega), mpS_off hG (by omega) (by omega), mpS_off hG (by omega) (by omega)]; exact h.2.1 j hj
  · unfold sM sU; rw [mpS_off hG (by omega) (by omega), mpS_off hG (by omega) (by omega)]; exact h.2.2.1 i hi
  · unfold bM bF bL; rw [mpS_off hG (by omega) (by omega), mpS_off hG (by omega) (by omega), mpS_off hG (by omega) (by omega)]; exact h.2.2.2 b hb
theorem c132 {σ : zSt} {S : Row} (hC : CS σ S) (hG : Good S) (rule : Int) : ∃ σ', zE 132 0 [some (zR 1), some (zI rule)] [] σ = zRI (ltS (mpS S rule) 3) σ' ∧ Fr3 σ σ' := by
  obtain ⟨f1, f2, f3⟩ := fill0_ok hG rule
  obtain ⟨σ1, e1, fr, hD⟩ := s134 (hC.of (clrS_staP S).sta) ((clrS_staP S).sta.good hG) (clrS_clr hG) rule
  have hdr : ∀ j o, Live S j o → σ1 60 (5 * j + o) = sP (nwF S rule) (5 * j + o) := by
    intro j o hl
    have hj : (j : Int) < (fillM rule 0 30 (clrS S)) 1 := by rw [f2.sta.k1]; exact hl.1
    exact (hD.1 j hj).2 o (by rw [f3 j (nJ_lt.mpr hl.1)]; exact nO_lt.mpr hl.2)
  have hC1 : CS σ1 (mpS S rule) := (hC.same fr.shop).mp hG rule
  rw [X132_0, e1, zbV_some, X131_0, s161 hC1 (mpS_good hG) (p := 3) (k := 60) (by rfl) (fun j o hl => by
    have hl2 := (mpS_lv hG j o).mp hl
    rw [hdr j o hl2]; exact (mpS_live hG hl2).2.symm), zbI_some, zbI_some]
  exact ⟨_, rfl, fr⟩
theorem cpw_id {S X R : Row} (h : ∀ k, 161 ≤ k → R k = S k) : cpw (cpw S 0 X 0 161) 0 R 0 161 = S := by
  funext x
  unfold cpw
  by_cases c : x < 161
  · rw [if_pos (by omega), if_pos (by omega)]
    rw [show 0 + (0 + (x - 0) - 0) = x by omega]
  · rw [if_neg (by omega)]; exact h x (by omega)
/-- the state kept in place 66, and brought back -/
theorem kp_out {τ : zSt} : zE 37 0 [some (zR 65), some (zI 0), some (zR 66), some (zI 0), none] [] τ = zRV (zset τ 66 (cpw (τ 65) 0 (τ 66) 0 161)) :=
  s37 (k0 := 65) (k2 := 66) (by decide) (a := 0) (d := 0) (by show ((0 : Nat) : Int) + 161 ≤ 161; decide) (by show ((0 : Nat) : Int) + 161 ≤ 161; decide) ⟨by omega, by omega⟩ τ
theorem kp_in {τ : zSt} : zE 37 0 [some (zR 66), some (zI 0), some (zR 65), some (zI 0), none] [] τ = zRV (zset τ 65 (cpw (τ 66) 0 (τ 65) 0 161)) :=
  s37 (k0 := 66) (k2 := 65) (by decide) (a := 0) (d := 0) (by show ((0 : Nat) : Int) + 161 ≤ 161; decide) (by show ((0 : Nat) : Int) + 161 ≤ 161; decide) ⟨by omega, by omega⟩ τ
/-- only the kept copy may have changed -/
def Fk (τ τ' : zSt) : Prop := ∀ k : Nat, k ≠ 66 → τ' k = τ k
theorem Fk.rf (τ : zSt) : Fk τ τ := fun _ _ => rfl
theorem Fk.trans {a b c : zSt} (h : Fk a b) (h' : Fk b c) : Fk a c := fun k hk => (h' k hk).trans (h k hk)
theorem Fk.rm {τ τ' : zSt} {S : Row} {c : Nat} {H : Nat → Row} {t : Nat} {T : Row} (e : Fk τ τ') (h : RM τ S c H t T) : RM τ' S c H t T := by
  obtain ⟨h1, h2, h3, h4, h5⟩ := h
  exact ⟨by rw [e 65 (by decide)]; exact h1, by rw [e 9 (by decide)]; exact h2, fun i hi => by rw [e 67 (by decide)]; exact h3 i hi, by rw [e 9 (by decide)]; exact h4, fun i hi => by rw [e 68 (by decide)]; exact h5 i hi⟩
theorem Fk.fm {τ τ' : zSt} (e : Fk τ τ') : FM τ τ' := fun k _ h => e k (by omega)
theorem kp_back {τ : zSt} {X R : Row} (h : ∀ k, 161 ≤ k → R k = τ 65 k) : ∃ τ', zE 37 0 [some (zR 66), some (zI 0), some (zR 65), some (zI 0), none] [] (zset (zset τ 66 (cpw (τ 65) 0 X 0 161)) 65 R) = zRV τ' ∧ Fk τ τ' ∧ τ' 66 = cpw (τ 65) 0 X 0 161 := by
  refine ⟨_, kp_in, fun k hk => ?_, ?_⟩
  · rw [zset_set]
    by_cases c : k = 65
    · subst c
      rw [zset_at, zset_ne _ _ (by decide), zset_at, zset_at, cpw_id h]
    · rw [zset_ne _ _ c, zset_ne _ _ hk]
  · rw [zset_ne _ _ (by decide), zset_ne _ _ (by decide), zset_at]
theorem m96 {τ : zSt} (hG : Good (τ 65)) (rule : Int) : ∃ τ', zE 96 0 [some (zR 9), some (zI rule), none] [] τ = zRI (ltS (mpS (τ 65) rule) 3) τ' ∧ Fk τ τ' := by
  obtain ⟨τ', e1, e2, _⟩ := kp_back (τ := τ) (X := τ 66) (R := mpS (τ 65) rule) (fun k hk => mpS_off hG (by omega) (by omega))
  have e4 := s68 (σ := zset τ 66 (cpw (τ 65) 0 (τ 66) 0 161)) (by rw [zset_ne _ _ (by decide)]; exact hG) rule
  rw [zset_ne _ _ (show (65 : Nat) ≠ 66 by decide)] at e4
  have e5 := s66 (σ := zset (zset τ 66 (cpw (τ 65) 0 (τ 66) 0 161)) 65 (mpS (τ 65) rule)) (by rw [zset_at]; exact mpS_good hG) (p := 3) (by omega)
  rw [zset_at] at e5
  have e5' : zE 66 0 [some (zR 9), some (zI 3), none, none] [] (zset (zset τ 66 (cpw (τ 65) 0 (τ 66) 0 161)) 65 (mpS (τ 65) rule)) = zRI (ltS (mpS (τ 65) rule) 3) (zset (zset τ 66 (cpw (τ 65) 0 (τ 66) 0 161)) 65 (mpS (τ 65) rule)) := e5
  rw [X96_0, kp_out, zbV_some, e4, zbV_some, e5', zbI_some, e1, zbV_some]
  exact ⟨τ', rfl, e2⟩
/-- a what-if: the class's draft and the model's kept copy apart, nothing changes -/
theorem Both.w {ks : List Nat} {x y : Option zOut} {σ τ : zSt} {S : Row} {c : Nat} {H : Nat → Row} {t : Nat} {T : Row} {B : Int} (h : RC σ S c H t T) (g : RM τ S c H t T) (a : RA S c H t T B) (v : Int) {σ' τ' : zSt} (hx : x = zRI v σ') (hf : Fr3 σ σ') (hy : y = zRI v τ') (hk : Fk (zup τ 9 0 0) τ') : Both ks x y σ τ S c H t T B :=
  Or.inl ⟨v, σ', τ', S, c, H, t, T, hx, hy, by rw [hk 9 (by decide)]; exact zup_at _ _ _ _, h.frame a (fun k q => hf k (by omega) (by omega) (by omega)), hk.rm (g.nine ⟨by decide, by decide⟩), a, FC.fr3 hf, FM.nine.trans hk.fm⟩
theorem f_latenessBy {σ τ : zSt} {S : Row} {c : Nat} {H : Nat → Row} {t : Nat} {T : Row} {B : Int} (h : RC σ S c H t T) (g : RM τ S c H t T) (a : RA S c H t T B) (r : Int) : Both [1] (zE 17 0 [some (zR 0), some (zI r)] [] σ) (zE 97 0 [some (zR 9), some (zI r)] [] τ) σ τ S c H t T B := by
  have hG := a.1.1
  rw [X17_0, s34, zbI_some, X97_0, s69, zbI_some, X97_13, zup_at]
  by_cases c1 : 0 ≤ r ∧ r ≤ 3
  · obtain ⟨σ', e1, e2⟩ := c132 h.cs hG r
    obtain ⟨τ', e3, e4⟩ := m96 (τ := zup τ 9 0 0) (by rw [zup9_65, g.1]; exact hG) r
    rw [zup9_65, g.1] at e3
    simp only [if_pos c1, if_neg i10, Int.le_refl, if_true]
    rw [e1, zbI_some, e3, zbI_some]
    exact Both.w h g a _ rfl e2 rfl e4
  · simp only [if_neg c1, if_true]
    exact bad3 g 0 1 rfl
/-- the best of rules l, l + 1 .. 3 and b -/
noncomputable def bst4 (L : Int → Int) : Nat → Int → Int → Int
  | 0, _, b => b
  | d + 1, l, b => bst4 L d (l + 1) (if L l < L b then l else b)
theorem c18 {S : Row} (hG : Good S) : ∀ (d : Nat) (l b : Int) (σ : zSt) (o4 : Option zVal), l + d = 4 → 0 ≤ l → CS σ S → ∃ σ', zE 18 13 [some (zR 0), some (zI b), some (zI (ltS (mpS S b) 3)), some (zI l), o4] [] σ = zRI (bst4 (fun r => ltS (mpS S r) 3) d l b) σ' ∧ Fr3 σ σ' := by
  intro d
  induction d with
  | zero =>
    intro l b σ o4 hl h0 hC
    rw [X18_13, if_neg (by omega)]
    exact ⟨σ, rfl, Fr3.rf _⟩
  | succ d ih =>
    intro l b σ o4 hl h0 hC
    obtain ⟨σ1, e1, f1⟩ := c132 hC hG l
    rw [X18_13, if_pos (by omega), e1, zbI_some, zw_id (x := l + 1) (by omega) (by omega)]
    show ∃ σ', _ = zRI (bst4 (fun r => ltS (mpS S r) 3) d (l + 1) (if ltS (mpS S l) 3 < ltS (mpS S b) 3 then l else b)) σ' ∧ _
    by_cases q : ltS (mpS S l) 3 < ltS (mpS S b) 3
    · rw [if_pos q, if_pos q]
      obtain ⟨σ2, e2, f2⟩ := ih (l + 1) l σ1 (some (zI (ltS (mpS S l) 3))) (by omega) (by omega) (hC.same f1.shop)
      exact ⟨σ2, e2, f1.trans f2⟩
    · rw [if_neg q, if_neg q]
      obtain ⟨σ2, e2, f2⟩ := ih (l + 1) b σ1 (some (zI (ltS (mpS S l) 3))) (by omega) (by omega) (hC.same f1.shop)
      exact ⟨σ2, e2, f1.trans f2⟩
theorem m98 {S : Row} (hG : Good S) : ∀ (d : Nat) (l b : Int) (τ : zSt), l + d = 4 → 0 ≤ l → τ 65 = S → ∃ τ', zE 98 9 [some (zR 9), some (zI b), some (zI l)] [] τ = zRI (bst4 (fun r => ltS (mpS S r) 3) d l b) τ' ∧ Fk τ τ' := by
  intro d
  induction d with
  | zero =>
    intro l b τ hl h0 hS
    rw [X98_9, if_neg (by omega)]
    exact ⟨τ, rfl, Fk.rf _⟩
  | succ d ih =>
    intro l b τ hl h0 hS
    obtain ⟨τ1, e1, f1⟩ := m96 (τ := τ) (by rw [hS]; exact hG) l
    obtain ⟨τ2, e2, f2⟩ := m96 (τ := τ1) (by rw [f1 65 (by decide), hS]; exact hG) b
    rw [f1 65 (by decide)] at e2
    rw [hS] at e1 e2
    obtain ⟨τ3, e3, f3⟩ := ih (l + 1) (if ltS (mpS S l) 3 < ltS (mpS S b) 3 then l else b) τ2 (by omega) (by omega) (by rw [f2 65 (by decide), f1 65 (by decide), hS])
    rw [X98_9, if_pos (by omega), e1, zbI_some, e2, zbI_some, zw_id (x := l + 1) (by omega) (by omega)]
    exact ⟨τ3, e3, (f1.trans f2).trans f3⟩
theorem f_bestRule {σ τ : zSt} {S : Row} {c : Nat} {H : Nat → Row} {t : Nat} {T : Row} {B : Int} (h : RC σ S c H t T) (g : RM τ S c H t T) (a : RA S c H t T B) : Both [] (zE 18 0 [some (zR 0), none, none, none, none] [] σ) (zE 98 0 [some (zR 9), none, none] [] τ) σ τ S c H t T B := by
  have hG := a.1.1
  obtain ⟨σ1, e1, f1⟩ := c132 h.cs hG 0
  obtain ⟨σ2, e2, f2⟩ := c18 hG 3 1 0 σ1 none (by omega) (by omega) (h.cs.same f1.shop)
  obtain ⟨τ', e3, f3⟩ := m98 hG 3 1 0 (zup τ 9 0 0) (by omega) (by omega) (by rw [zup9_65, g.1])
  rw [X18_0, e1, zbI_some, e2, X98_0, e3]
  exact Both.w h g a _ rfl (f1.trans f2) rfl f3
theorem s131 {σ : zSt} {R : Row} (hC : CS σ R) (hG : Good R) (hA : ∀ j o, Live R j o → σ 60 (5 * j + o) = sP R (5 * j + o)) : zE 131 0 [some (zR 1)] [] σ = zRI (ltS R 3) σ := by
  rw [X131_0, s161 hC hG (p := 3) (k := 60) (by rfl) hA, zbI_some]
theorem f_latenessShifted {σ τ : zSt} {S : Row} {c : Nat} {H : Nat → Row} {t : Nat} {T : Row} {B : Int} (hB : 550 ≤ B ∧ B ≤ 700000) (h : RC σ S c H t T) (g : RM τ S c H t T) (a : RA S c H t T B) : Both [] (zE 19 0 [some (zR 0)] [] σ) (zE 100 0 [some (zR 9)] [] τ) σ τ S c H t T B := by
  have hG := a.1.1
  have g3 := hG.1.2.2.2
  have g1 : (zup τ 9 0 0) 65 = S := by rw [zup9_65, g.1]
  rw [X19_0, h.fld.2.2.2.1, X100_0, X99_0, s73, zbI_some, g1]
  by_cases c1 : S 3 = 1
  · rw [if_neg (by omega), if_pos c1, if_neg i10]
    obtain ⟨v2, v3⟩ := a.1.2 c1
    have hV := v2.vo hG
    obtain ⟨σ2, Q, e2, fr2, hD, st, hpb, hq, hall⟩ := s139 h.cs hG hV hB (fun j o hl => (h.1.2.2.2.2 c1 j o hl).1)
    have hM : ∀ j o, Live S j o → sP Q (5 * j + o) ≤ B + 600 := fun j o hl => (hpb j o ((st.sta.live hG j o).mpr hl)).2
    have k65 : (zset (zup τ 9 0 0) 66 (cpw S 0 ((zup τ 9 0 0) 66) 0 161)) 65 = S := by rw [zset_ne _ _ (by decide), g1]
    obtain ⟨R, e4, stR, hR⟩ := s72 (σ := zset (zup τ 9 0 0) 66 (cpw S 0 ((zup τ 9 0 0) 66) 0 161)) (by rw [k65]; exact hG) (β := B) (M := B + 600) (by rw [k65]; exact hV) (q := fun j o => sP Q (5 * j + o)) (by rw [k65]; exact hq) (by rw [k65]; exact hM) (by omega)
    rw [k65] at stR hR
    obtain ⟨τ', e5, f5, _⟩ := kp_back (τ := zup τ 9 0 0) (X := (zup τ 9 0 0) 66) (R := R) (fun k hk => by rw [g1]; exact stR k (by omega))
    rw [g1] at e5
    have e6 := s66 (σ := zset (zset (zup τ 9 0 0) 66 (cpw S 0 ((zup τ 9 0 0) 66) 0 161)) 65 R) (by rw [zset_at]; exact stR.sta.good hG) (p := 3) (by omega)
    rw [zset_at] at e6
    have e6' : zE 66 0 [some (zR 9), some (zI 3), none, none] [] (zset (zset (zup τ 9 0 0) 66 (cpw S 0 ((zup τ 9 0 0) 66) 0 161)) 65 R) = zRI (ltS R 3) (zset (zset (zup τ 9 0 0) 66 (cpw S 0 ((zup τ 9 0 0) 66) 0 161)) 65 R) := e6
    have e7 := kp_out (τ := zup τ 9 0 0)
    rw [g1] at e7
    rw [e2, zbV_some, s131 ((h.cs.same fr2.shop).of stR.sta) (stR.sta.good hG) (fun j o hl => by
      have hl2 := (stR.sta.live hG j o).mp hl
      rw [hR j o hl2]
      exact (hD.1 j (by rw [st.sta.k1]; exact hl2.1)).2 o (by rw [hall j (nJ_lt.mpr hl2.1)]; exact nO_lt.mpr hl2.2)), zbI_some, e7, zbV_some, e4, zbV_some, e6', zbI_some, e5, zbV_some, zbI_some]
    exact Both.w h g a _ rfl fr2 rfl f5
  · rw [if_pos (by omega), if_neg c1, if_pos rfl, zbI_some]
    exact Both.q h g a _ rfl rfl
