/-! ===== 69: bargain, overtime, breakdowns; a turn (written by a program) ===== -/
theorem barS_off {S : Row} {j : Nat} {x : Int} {k : Nat} (a1 : k ≠ 6 + 3 * j) (a2 : k ≠ 4) : barS S j x k = S k := by
  unfold barS
  rw [rset_of a2, rset_of a1]
theorem barS_at {S : Row} {j : Nat} {x : Int} : rD (barS S j x) j = rD S j + x ∧ barS S j x 4 = zw (S 4 + zw (x * rW S j)) := by
  refine ⟨?_, rset_eq rfl⟩
  show barS S j x (6 + 3 * j) = _
  unfold barS
  rw [rset_of (by omega), rset_eq rfl]
theorem ovtS_off {S : Row} {j o k : Nat} (a1 : k ≠ 24 + 4 * (5 * j + o)) (a2 : k ≠ 4) (a3 : k ≠ 3) : ovtS S j o k = S k := by
  unfold ovtS
  rw [rset_of a3, rset_of a2, rset_of a1]
theorem ovtS_at {S : Row} {j o : Nat} : sU (ovtS S j o) (5 * j + o) = sU S (5 * j + o) - 1 ∧ ovtS S j o 3 = 0 ∧ ovtS S j o 4 = zw (S 4 + 3) := by
  refine ⟨?_, rset_eq rfl, ?_⟩
  · show ovtS S j o (24 + 4 * (5 * j + o)) = _
    unfold ovtS
    rw [rset_of (by omega), rset_of (by omega), rset_eq rfl]
  · unfold ovtS
    rw [rset_of (by omega), rset_eq rfl]
theorem brkS_off {S : Row} {n : Nat} (h : S 2 = n) {m f l : Int} {k : Nat} (a1 : k ≠ 143 + 3 * n) (a2 : k ≠ 144 + 3 * n) (a3 : k ≠ 145 + 3 * n) (a4 : k ≠ 2) : brkS S m f l k = S k := by
  have hn2 : (S 2).toNat = n := by omega
  unfold brkS
  rw [hn2, rset_of a4, rset_of a3, rset_of a2, rset_of a1]
theorem brkS_at {S : Row} {n : Nat} (h : S 2 = n) (m f l : Int) : brkS S m f l 2 = S 2 + 1 ∧ bM (brkS S m f l) n = m ∧ bF (brkS S m f l) n = f ∧ bL (brkS S m f l) n = l := by
  have hn2 : (S 2).toNat = n := by omega
  refine ⟨rset_eq rfl, ?_, ?_, ?_⟩
  · unfold bM brkS
    rw [hn2, rset_of (by omega), rset_of (by omega), rset_of (by omega), rset_eq rfl]
  · unfold bF brkS
    rw [hn2, rset_of (by omega), rset_of (by omega), rset_eq rfl]
  · unfold bL brkS
    rw [hn2, rset_of (by omega), rset_eq rfl]
theorem repS_off {S : Row} {k : Nat} (a : k ≠ 2) : repS S k = S k := rset_of a
section LAWI
variable {σ : zSt} {S : Row} {B : Int} {t : Nat} {l7 l8 l9 l10 l11 l12 : Int} {o13 o14 : Option zVal}
/-- a bargain -/
theorem q187_ba (h : J2 σ S B t) (ht : t ≤ 9) : ∃ (y13 y14 : Option zVal) (σ' : zSt) (S' : Row), zE 187 354 [some (zR 90), some (zR 0), some (zR 9), some (zR 65), some (zR 66), some (zR 67), some (zR 68), some (zI l7), some (zI l8), some (zI l9), some (zI 6), some (zI l11), some (zI l12), o13, o14] [] σ = zE 187 682 [some (zR 90), some (zR 0), some (zR 9), some (zR 65), some (zR 66), some (zR 67), some (zR 68), some (zI l7), some (zI l8), some (zI l9), some (zI 6), some (zI l11), some (zI l12), y13, y14] [] σ' ∧ J2 σ' S' B (t + 1) := by
  obtain ⟨hC, ⟨h3, hw, hp, ho, h91, h92⟩, hm, hd⟩ := h
  have hG := hC.ok.1
  obtain ⟨r7, c1, c2, e1⟩ := t171 σ l9 (n := 3) (by omega)
  obtain ⟨j, rfl⟩ : ∃ j : Nat, r7 = (j : Int) := ⟨r7.toNat, by omega⟩
  have hj : j < 3 := by omega
  obtain ⟨r8, c3, c4, e2⟩ := t171 σ (zsh l9 2) (n := 9) (by omega)
  have hdj := hd j hj
  have gd := (hG.2.1 j (by rw [h3.1.2]; omega)).2.1
  have w1 : zw (3 * (j : Int)) = 3 * (j : Int) := zw_id (by omega) (by omega)
  have w2 : zw (3 * (j : Int) + 1) = 3 * (j : Int) + 1 := zw_id (by omega) (by omega)
  have n1 : (3 * (j : Int)).toNat = 3 * j := by omega
  have n2 : (3 * (j : Int) + 1).toNat = 3 * j + 1 := by omega
  have wr : zw (1 + r8) = 1 + r8 := zw_id (by omega) (by omega)
  obtain ⟨s1, s2, s3⟩ := hw.2.1 j hj
  have wd : zw (rD S j + (1 + r8)) = rD S j + (1 + r8) := zw_id (by omega) (by omega)
  have u1 : (zup σ 65 (3 * j + 1) (rD S j + (1 + r8))) 9 2 = S 4 := by rw [zup_of (by omega)]; exact h92
  have u2 : (zup σ 65 (3 * j + 1) (rD S j + (1 + r8))) 65 (3 * j) = rW S j := by rw [zup_of (by omega)]; exact s1
  have v1 : (zup (zup σ 65 (3 * j + 1) (rD S j + (1 + r8))) 9 2 (zw (S 4 + zw ((1 + r8) * rW S j)))) 65 (3 * j + 1) = rD S j + (1 + r8) := by rw [zup_of (by omega), zup_at]
  have v2 : (zup (zup σ 65 (3 * j + 1) (rD S j + (1 + r8))) 9 2 (zw (S 4 + zw ((1 + r8) * rW S j)))) 9 2 = zw (S 4 + zw ((1 + r8) * rW S j)) := zup_at _ _ _ _
  have v3 : ∀ i, i ≠ 3 * j + 1 → (zup (zup σ 65 (3 * j + 1) (rD S j + (1 + r8))) 9 2 (zw (S 4 + zw ((1 + r8) * rW S j)))) 65 i = σ 65 i := fun i hi => by rw [zup_of (by omega), zup_of (by omega)]
  have v4 : ∀ i, i ≠ 2 → (zup (zup σ 65 (3 * j + 1) (rD S j + (1 + r8))) 9 2 (zw (S 4 + zw ((1 + r8) * rW S j)))) 9 i = σ 9 i := fun i hi => by rw [zup_of (by omega), zup_of (by omega)]
  have v5 : ∀ k, k ≠ 65 → k ≠ 9 → (zup (zup σ 65 (3 * j + 1) (rD S j + (1 + r8))) 9 2 (zw (S 4 + zw ((1 + r8) * rW S j)))) k = σ k := fun k k1 k2 => by rw [zup_off k2, zup_off k1]
  have hC1 : CR (zup (zup σ 65 (3 * j + 1) (rD S j + (1 + r8))) 9 2 (zw (S 4 + zw ((1 + r8) * rW S j)))) S B := hC.fl (fun k k1 k2 => v5 k (by omega) k1)
  rw [X187_354, if_neg (by decide), if_neg (by decide), if_neg (by decide), if_pos rfl, e1, zbI_some, e2, zbI_some, wr, w1, w2, n1, n2, zgd_pos (by omega), zgd_pos (by omega), zgd_pos (by omega), s2, wd, u1, u2]
  generalize zup (zup σ 65 (3 * j + 1) (rD S j + (1 + r8))) 9 2 (zw (S 4 + zw ((1 + r8) * rW S j))) = τ at v1 v2 v3 v4 v5 hC1 ⊢
  obtain ⟨σ', f1, f2, f3⟩ := g_bargain hC1 (n := j) (x := 1 + r8) (by rw [h3.1.2]; omega) (by omega) (by omega)
  obtain ⟨d1, d2⟩ := barS_at (S := S) (j := j) (x := 1 + r8)
  have off : ∀ k, k ≠ 6 + 3 * j → k ≠ 4 → barS S j (1 + r8) k = S k := fun k k1 k2 => barS_off k1 k2
  have s65 : σ' 65 = τ 65 := f3.2 65 (by omega)
  have s66 : σ' 66 = σ 66 := by rw [f3.2 66 (by omega), v5 66 (by decide) (by decide)]
  have s68 : σ' 68 = σ 68 := by rw [f3.2 68 (by omega), v5 68 (by decide) (by decide)]
  rw [f1, zbI_some, zgd_pos (by omega), s65, v1, if_pos rfl]
  have eo : ∀ j' : Nat, rO (barS S j (1 + r8)) j' = rO S j' := fun j' => off _ (by omega) (by omega)
  have hl : ∀ j' o', Live (barS S j (1 + r8)) j' o' → Live S j' o' := fun j' o' q => ⟨by have := q.1; rw [off 1 (by omega) (by omega)] at this; exact this, by have := q.2; rw [eo] at this; exact this⟩
  obtain ⟨y1, y2, y3, y4⟩ := hw
  refine ⟨_, _, σ', barS S j (1 + r8), rfl, f2, ⟨⟨⟨by rw [off 0 (by omega) (by omega)]; exact h3.1.1, by rw [off 1 (by omega) (by omega)]; exact h3.1.2⟩, by rw [off 2 (by omega) (by omega)]; exact h3.2.1, fun j' hj' => by rw [eo]; exact h3.2.2 j' hj'⟩, ⟨?_, fun j' hj' => ?_, fun j' o' q => ?_, fun b hb => ?_⟩, fun j' o' q => ?_, fun j' o' q => ?_, ?_, ?_⟩, fun j' o' q => ?_, fun j' hj' => ?_⟩
  · rw [f3.1, v4 0 (by omega), off 2 (by omega) (by omega)]; exact y1
  · have ew : rW (barS S j (1 + r8)) j' = rW S j' := off _ (by omega) (by omega)
    rw [s65, ew, eo, v3 (3 * j') (by omega), v3 (3 * j' + 2) (by omega)]
    obtain ⟨k1, k2, k3⟩ := y2 j' hj'
    refine ⟨k1, ?_, k3⟩
    by_cases c : j' = j
    · rw [c, v1, d1]
    · have ed : rD (barS S j (1 + r8)) j' = rD S j' := off _ (by omega) (by omega)
      rw [ed, v3 _ (by omega)]; exact k2
  · have em : sM (barS S j (1 + r8)) (5 * j' + o') = sM S (5 * j' + o') := off _ (by omega) (by omega)
    have eu : sU (barS S j (1 + r8)) (5 * j' + o') = sU S (5 * j' + o') := off _ (by omega) (by omega)
    rw [s66, em, eu]; exact y3 j' o' (hl j' o' q)
  · rw [off 2 (by omega) (by omega)] at hb
    have e1 : bM (barS S j (1 + r8)) b = bM S b := off _ (by omega) (by omega)
    have e2 : bF (barS S j (1 + r8)) b = bF S b := off _ (by omega) (by omega)
    have e3 : bL (barS S j (1 + r8)) b = bL S b := off _ (by omega) (by omega)
    rw [s68, e1, e2, e3]; exact y4 b hb
  · have e : sP (barS S j (1 + r8)) (5 * j' + o') = sP S (5 * j' + o') := off _ (by omega) (by omega)
    rw [s66, e]; exact hp j' o' (hl j' o' q)
  · have e : sL (barS S j (1 + r8)) (5 * j' + o') = sL S (5 * j' + o') := off _ (by omega) (by omega)
    rw [s66, e]; exact ho j' o' (hl j' o' q)
  · rw [f3.1, v4 1 (by omega), off 3 (by omega) (by omega)]; exact h91
  · rw [f3.1, v2, d2]
  · have em : sM (barS S j (1 + r8)) (5 * j' + o') = sM S (5 * j' + o') := off _ (by omega) (by omega)
    rw [em, off 0 (by omega) (by omega)]; exact hm j' o' (hl j' o' q)
  · have hdj' := hd j' hj'
    by_cases c : j' = j
    · rw [c, d1]; omega
    · have ed : rD (barS S j (1 + r8)) j' = rD S j' := off _ (by omega) (by omega)
      rw [ed]; omega
/-- overtime -/
theorem q187_ov (h : J2 σ S B t) (h10 : 7 ≤ l10) : ∃ (y13 y14 : Option zVal) (σ' : zSt) (S' : Row), zE 187 354 [some (zR 90), some (zR 0), some (zR 9), some (zR 65), some (zR 66), some (zR 67), some (zR 68), some (zI l7), some (zI l8), some (zI l9), some (zI l10), some (zI l11), some (zI l12), o13, o14] [] σ = zE 187 682 [some (zR 90), some (zR 0), some (zR 9), some (zR 65), some (zR 66), some (zR 67), some (zR 68), some (zI l7), some (zI l8), some (zI l9), some (zI l10), some (zI l11), some (zI l12), y13, y14] [] σ' ∧ J2 σ' S' B t := by
  obtain ⟨hC, hlw, hm, hd⟩ := id h
  obtain ⟨h3, hw, hp, ho, h91, h92⟩ := id hlw
  have hG := hC.ok.1
  obtain ⟨r, c1, c2, e1⟩ := t171 σ l9 (n := 12) (by omega)
  obtain ⟨e, rfl⟩ : ∃ e : Nat, r = (e : Int) := ⟨r.toNat, by omega⟩
  obtain ⟨j, o, he, ho4⟩ : ∃ j o : Nat, e = 4 * j + o ∧ o < 4 := ⟨e / 4, e % 4, by omega, by omega⟩
  have hj : j < 3 := by omega
  have e172 := t172 hw hj ho4
  rw [← he] at e172
  rw [X187_354, if_neg (by omega), if_neg (by omega), if_neg (by omega), if_neg (by omega), e1, zbI_some, e172, zbI_some]
  by_cases c : (o : Int) < rO S j
  · have hl0 : Live S j o := h3.live hj c
    have hu := (hw.2.2.1 j o hl0).2
    have w1 : zw (4 * (e : Int)) = 4 * (e : Int) := zw_id (by omega) (by omega)
    have w2 : zw (4 * (e : Int) + 1) = 4 * (e : Int) + 1 := zw_id (by omega) (by omega)
    have n2 : (4 * (e : Int) + 1).toNat = 16 * j + 4 * o + 1 := by omega
    rw [if_pos c, if_neg i10, w1, w2, n2, zgd_pos (by omega), hu]
    by_cases c3 : sU S (5 * j + o) ≤ 1
    · rw [if_pos c3]
      exact ⟨_, _, σ, S, rfl, h⟩
    · have g := (hG.2.2.1 j o hl0.1 hl0.2).2
      have wd : zw (sU S (5 * j + o) - 1) = sU S (5 * j + o) - 1 := zw_id (by omega) (by omega)
      have u1 : (zup (zup σ 66 (16 * j + 4 * o + 1) (sU S (5 * j + o) - 1)) 9 1 0) 9 2 = S 4 := by rw [zup_of (by omega), zup_of (by omega)]; exact h92
      have v1 : (zup (zup (zup σ 66 (16 * j + 4 * o + 1) (sU S (5 * j + o) - 1)) 9 1 0) 9 2 (zw (S 4 + 3))) 66 (16 * j + 4 * o + 1) = sU S (5 * j + o) - 1 := by rw [zup_of (by omega), zup_of (by omega), zup_at]
      have v2 : (zup (zup (zup σ 66 (16 * j + 4 * o + 1) (sU S (5 * j + o) - 1)) 9 1 0) 9 2 (zw (S 4 + 3))) 9 2 = zw (S 4 + 3) := zup_at _ _ _ _
      have v3 : (zup (zup (zup σ 66 (16 * j + 4 * o + 1) (sU S (5 * j + o) - 1)) 9 1 0) 9 2 (zw (S 4 + 3))) 9 1 = 0 := by rw [zup_of (by omega), zup_at]
      have v4 : (zup (zup (zup σ 66 (16 * j + 4 * o + 1) (sU S (5 * j + o) - 1)) 9 1 0) 9 2 (zw (S 4 + 3))) 9 0 = σ 9 0 := by rw [zup_of (by omega), zup_of (by omega), zup_of (by omega)]
      have v5 : ∀ k, k ≠ 66 → k ≠ 9 → (zup (zup (zup σ 66 (16 * j + 4 * o + 1) (sU S (5 * j + o) - 1)) 9 1 0) 9 2 (zw (S 4 + 3))) k = σ k := fun k k1 k2 => by rw [zup_off k2, zup_off k2, zup_off k1]
      have v6 : ∀ i, i ≠ 16 * j + 4 * o + 1 → (zup (zup (zup σ 66 (16 * j + 4 * o + 1) (sU S (5 * j + o) - 1)) 9 1 0) 9 2 (zw (S 4 + 3))) 66 i = σ 66 i := fun i hi => by rw [zup_of (by omega), zup_of (by omega), zup_of (by omega)]
      have hC1 : CR (zup (zup (zup σ 66 (16 * j + 4 * o + 1) (sU S (5 * j + o) - 1)) 9 1 0) 9 2 (zw (S 4 + 3))) S B := hC.fl (fun k k1 k2 => v5 k (by omega) k1)
      obtain ⟨x1, x2⟩ := e4 (j := j) ho4
      rw [← he] at x1 x2
      rw [if_neg c3, zgd_pos (by omega), zgd_pos (by omega), zgd_pos (by omega), zgd_pos (by omega), wd, u1, x1, x2]
      generalize zup (zup (zup σ 66 (16 * j + 4 * o + 1) (sU S (5 * j + o) - 1)) 9 1 0) 9 2 (zw (S 4 + 3)) = τ at v1 v2 v3 v4 v5 v6 hC1 ⊢
      obtain ⟨σ', f1, f2, f3⟩ := g_overtime hC1 hl0 (by omega)
      obtain ⟨d1, d2, d3⟩ := ovtS_at (S := S) (j := j) (o := o)
      have off : ∀ k, k ≠ 24 + 4 * (5 * j + o) → k ≠ 4 → k ≠ 3 → ovtS S j o k = S k := fun k k1 k2 k3 => ovtS_off k1 k2 k3
      have s65 : σ' 65 = σ 65 := by rw [f3.2 65 (by omega), v5 65 (by decide) (by decide)]
      have s66 : σ' 66 = τ 66 := f3.2 66 (by omega)
      have s68 : σ' 68 = σ 68 := by rw [f3.2 68 (by omega), v5 68 (by decide) (by decide)]
      rw [f1, zbI_some, zgd_pos (by omega), s66, v1, if_pos rfl]
      have eo : ∀ j' : Nat, j' < 3 → rO (ovtS S j o) j' = rO S j' := fun j' _ => off _ (by omega) (by omega) (by omega)
      have hl : ∀ j' o', Live (ovtS S j o) j' o' → Live S j' o' := fun j' o' q => by
        have q1 := q.1
        have q2 := q.2
        rw [off 1 (by omega) (by omega) (by omega)] at q1
        have hj' : j' < 3 := by have := h3.1.2; omega
        rw [eo j' hj'] at q2
        exact ⟨q1, q2⟩
      obtain ⟨y1, y2, y3, y4⟩ := hw
      refine ⟨_, _, σ', ovtS S j o, rfl, f2, ⟨⟨⟨by rw [off 0 (by omega) (by omega) (by omega)]; exact h3.1.1, by rw [off 1 (by omega) (by omega) (by omega)]; exact h3.1.2⟩, by rw [off 2 (by omega) (by omega) (by omega)]; exact h3.2.1, fun j' hj' => by rw [eo j' hj']; exact h3.2.2 j' hj'⟩, ⟨?_, fun j' hj' => ?_, fun j' o' q => ?_, fun b hb => ?_⟩, fun j' o' q => ?_, fun j' o' q => ?_, ?_, ?_⟩, fun j' o' q => ?_, fun j' hj' => ?_⟩
      · rw [f3.1, v4, off 2 (by omega) (by omega) (by omega)]; exact y1
      · have ew : rW (ovtS S j o) j' = rW S j' := off _ (by omega) (by omega) (by omega)
        have ed : rD (ovtS S j o) j' = rD S j' := off _ (by omega) (by omega) (by omega)
        rw [s65, ew, ed, eo j' hj']; exact y2 j' hj'
      · have hl' := hl j' o' q
        obtain ⟨z1, z2⟩ := h3.j3 hl'
        have em : sM (ovtS S j o) (5 * j' + o') = sM S (5 * j' + o') := off _ (by omega) (by omega) (by omega)
        obtain ⟨k1, k2⟩ := y3 j' o' hl'
        rw [s66, em, v6 (16 * j' + 4 * o') (by omega)]
        refine ⟨k1, ?_⟩
        by_cases cc : j' = j ∧ o' = o
        · rw [cc.1, cc.2, v1, d1]
        · have eu : sU (ovtS S j o) (5 * j' + o') = sU S (5 * j' + o') := off _ (by omega) (by omega) (by omega)
          rw [eu, v6 _ (by omega)]; exact k2
      · have hb2 := hb
        rw [off 2 (by omega) (by omega) (by omega)] at hb2
        have hb6 := hG.b6 hb2
        have e1 : bM (ovtS S j o) b = bM S b := off _ (by omega) (by omega) (by omega)
        have e2 : bF (ovtS S j o) b = bF S b := off _ (by omega) (by omega) (by omega)
        have e3 : bL (ovtS S j o) b = bL S b := off _ (by omega) (by omega) (by omega)
        rw [s68, e1, e2, e3]; exact y4 b hb2
      · have e : sP (ovtS S j o) (5 * j' + o') = sP S (5 * j' + o') := off _ (by omega) (by omega) (by omega)
        rw [s66, e, v6 _ (by omega)]; exact hp j' o' (hl j' o' q)
      · have e : sL (ovtS S j o) (5 * j' + o') = sL S (5 * j' + o') := off _ (by omega) (by omega) (by omega)
        rw [s66, e, v6 _ (by omega)]; exact ho j' o' (hl j' o' q)
      · rw [f3.1, v3, d2]
      · rw [f3.1, v2, d3]
      · have em : sM (ovtS S j o) (5 * j' + o') = sM S (5 * j' + o') := off _ (by omega) (by omega) (by omega)
        rw [em, off 0 (by omega) (by omega) (by omega)]; exact hm j' o' (hl j' o' q)
      · have ed : rD (ovtS S j o) j' = rD S j' := off _ (by omega) (by omega) (by omega)
        rw [ed]; exact hd j' hj'
  · rw [if_neg c, if_pos rfl]
    exact ⟨_, _, σ, S, rfl, h⟩
/-- a machine is repaired, or nothing -/
theorem q187_799 (h : J2 σ S B t) : ∃ (y13 y14 : Option zVal) (σ' : zSt) (S' : Row), zE 187 799 [some (zR 90), some (zR 0), some (zR 9), some (zR 65), some (zR 66), some (zR 67), some (zR 68), some (zI l7), some (zI l8), some (zI l9), some (zI l10), some (zI l11), some (zI l12), o13, o14] [] σ = zE 187 837 [some (zR 90), some (zR 0), some (zR 9), some (zR 65), some (zR 66), some (zR 67), some (zR 68), some (zI l7), some (zI l8), some (zI l9), some (zI l10), some (zI l11), some (zI l12), y13, y14] [] σ' ∧ J2 σ' S' B t := by
  obtain ⟨hC, ⟨h3, hw, hp, ho, h91, h92⟩, hm, hd⟩ := id h
  have hG := hC.ok.1
  obtain ⟨r1, c1, c2, e1⟩ := t171 σ (zsh l9 6) (n := 4) (by omega)
  rw [X187_799, e1, zbI_some]
  by_cases c : r1 = 1
  · rw [if_pos c]
    by_cases c3 : σ 9 0 ≤ 0
    · rw [if_pos c3]
      exact ⟨_, _, σ, S, rfl, h⟩
    · have h0 := hw.1
      have h23 := h3.2.1
      have wd : zw (σ 9 0 - 1) = S 2 - 1 := by rw [zw_id (by omega) (by omega)]; omega
      have hC1 : CR (zup σ 9 0 (S 2 - 1)) S B := hC.fl (fun k k1 k2 => zup_off k1)
      have v1 : (zup σ 9 0 (S 2 - 1)) 9 0 = S 2 - 1 := zup_at _ _ _ _
      have v2 : ∀ i, i ≠ 0 → (zup σ 9 0 (S 2 - 1)) 9 i = σ 9 i := fun i hi => zup_of (by omega)
      have v3 : ∀ k, k ≠ 9 → (zup σ 9 0 (S 2 - 1)) k = σ k := fun k hk => zup_off hk
      rw [if_neg c3, wd]
      generalize zup σ 9 0 (S 2 - 1) = τ at hC1 v1 v2 v3 ⊢
      obtain ⟨σ', f1, f2, f3⟩ := g_repaired hC1 (by omega)
      rw [f1, zbI_some, f3.1, v1, if_pos rfl]
      have s65 : σ' 65 = σ 65 := by rw [f3.2 65 (by omega), v3 65 (by decide)]
      have s66 : σ' 66 = σ 66 := by rw [f3.2 66 (by omega), v3 66 (by decide)]
      have s68 : σ' 68 = σ 68 := by rw [f3.2 68 (by omega), v3 68 (by decide)]
      have e2 : repS S 2 = S 2 - 1 := rset_eq rfl
      have off : ∀ k, k ≠ 2 → repS S k = S k := fun k k1 => repS_off k1
      have eo : ∀ j' : Nat, rO (repS S) j' = rO S j' := fun j' => off _ (by omega)
      have hl : ∀ j' o', Live (repS S) j' o' → Live S j' o' := fun j' o' q => ⟨by have := q.1; rw [off 1 (by omega)] at this; exact this, by have := q.2; rw [eo] at this; exact this⟩
      obtain ⟨y1, y2, y3, y4⟩ := hw
      refine ⟨_, _, σ', repS S, rfl, f2, ⟨⟨⟨by rw [off 0 (by omega)]; exact h3.1.1, by rw [off 1 (by omega)]; exact h3.1.2⟩, by rw [e2]; omega, fun j' hj' => by rw [eo]; exact h3.2.2 j' hj'⟩, ⟨?_, fun j' hj' => ?_, fun j' o' q => ?_, fun b hb => ?_⟩, fun j' o' q => ?_, fun j' o' q => ?_, ?_, ?_⟩, fun j' o' q => ?_, fun j' hj' => ?_⟩
      · rw [f3.1, v1, e2]
      · have ew : rW (repS S) j' = rW S j' := off _ (by omega)
        have ed : rD (repS S) j' = rD S j' := off _ (by omega)
        rw [s65, ew, ed, eo]; exact y2 j' hj'
      · have em : sM (repS S) (5 * j' + o') = sM S (5 * j' + o') := off _ (by omega)
        have eu : sU (repS S) (5 * j' + o') = sU S (5 * j' + o') := off _ (by omega)
        rw [s66, em, eu]; exact y3 j' o' (hl j' o' q)
      · rw [e2] at hb
        have k1 : bM (repS S) b = bM S b := off _ (by omega)
        have k2 : bF (repS S) b = bF S b := off _ (by omega)
        have k3 : bL (repS S) b = bL S b := off _ (by omega)
        rw [s68, k1, k2, k3]; exact y4 b (by omega)
      · have e : sP (repS S) (5 * j' + o') = sP S (5 * j' + o') := off _ (by omega)
        rw [s66, e]; exact hp j' o' (hl j' o' q)
      · have e : sL (repS S) (5 * j' + o') = sL S (5 * j' + o') := off _ (by omega)
        rw [s66, e]; exact ho j' o' (hl j' o' q)
      · rw [f3.1, v2 1 (by omega), off 3 (by omega)]; exact h91
      · rw [f3.1, v2 2 (by omega), off 4 (by omega)]; exact h92
      · have em : sM (repS S) (5 * j' + o') = sM S (5 * j' + o') := off _ (by omega)
        rw [em, off 0 (by omega)]; exact hm j' o' (hl j' o' q)
      · have ed : rD (repS S) j' = rD S j' := off _ (by omega)
        rw [ed]; exact hd j' hj'
  · rw [if_neg c]
    exact ⟨_, _, σ, S, rfl, h⟩
/-- a machine breaks down, or is repaired, or nothing -/
theorem q187_682 (h : J2 σ S B t) : ∃ (y13 y14 : Option zVal) (σ' : zSt) (S' : Row), zE 187 682 [some (zR 90), some (zR 0), some (zR 9), some (zR 65), some (zR 66), some (zR 67), some (zR 68), some (zI l7), some (zI l8), some (zI l9), some (zI l10), some (zI l11), some (zI l12), o13, o14] [] σ = zE 187 837 [some (zR 90), some (zR 0), some (zR 9), some (zR 65), some (zR 66), some (zR 67), some (zR 68), some (zI l7), some (zI l8), some (zI l9), some (zI l10), some (zI l11), some (zI l12), y13, y14] [] σ' ∧ J2 σ' S' B t := by
  obtain ⟨hC, ⟨h3, hw, hp, ho, h91, h92⟩, hm, hd⟩ := id h
  have hG := hC.ok.1
  obtain ⟨r1, c1, c2, e1⟩ := t171 σ (zsh l9 6) (n := 2) (by omega)
  rw [X187_682, e1, zbI_some]
  by_cases c : r1 = 0
  · rw [if_pos c]
    by_cases c3 : σ 9 0 < 3
    · have h0 := hw.1
      have g2 := hG.1.2.2.1
      obtain ⟨n, hn⟩ : ∃ n : Nat, S 2 = (n : Int) := ⟨(S 2).toNat, by omega⟩
      have hn0 : σ 9 0 = (n : Int) := h0.trans hn
      have hn3 : n < 3 := by omega
      have wn : zw ((n : Int) + 1) = ((n + 1 : Nat) : Int) := zw_nat1 (by omega)
      have w0 : zw (3 * (n : Int)) = 3 * (n : Int) := zw_id (by omega) (by omega)
      have w1 : zw (3 * (n : Int) + 1) = 3 * (n : Int) + 1 := zw_id (by omega) (by omega)
      have w2 : zw (3 * (n : Int) + 2) = 3 * (n : Int) + 2 := zw_id (by omega) (by omega)
      have n0 : (3 * (n : Int)).toNat = 3 * n := by omega
      have n1 : (3 * (n : Int) + 1).toNat = 3 * n + 1 := by omega
      have n2 : (3 * (n : Int) + 2).toNat = 3 * n + 2 := by omega
      obtain ⟨r2, x1, x2, e2⟩ := t171 (zup σ 9 0 ((n + 1 : Nat) : Int)) (zsh l9 7) (n := 3) (by omega)
      obtain ⟨r3, x3, x4, e3⟩ := t171 (zup (zup σ 9 0 ((n + 1 : Nat) : Int)) 68 (3 * n) r2) (zsh l9 9) (n := 50) (by omega)
      obtain ⟨r4, x5, x6, e4⟩ := t171 (zup (zup (zup σ 9 0 ((n + 1 : Nat) : Int)) 68 (3 * n) r2) 68 (3 * n + 1) r3) (zsh l9 15) (n := 15) (by omega)
      have wr : zw (1 + r4) = 1 + r4 := zw_id (by omega) (by omega)
      have v0 : (zup (zup (zup (zup σ 9 0 ((n + 1 : Nat) : Int)) 68 (3 * n) r2) 68 (3 * n + 1) r3) 68 (3 * n + 2) (1 + r4)) 68 (3 * n) = r2 := by rw [zup_of (by omega), zup_of (by omega), zup_at]
      have v1 : (zup (zup (zup (zup σ 9 0 ((n + 1 : Nat) : Int)) 68 (3 * n) r2) 68 (3 * n + 1) r3) 68 (3 * n + 2) (1 + r4)) 68 (3 * n + 1) = r3 := by rw [zup_of (by omega), zup_at]
      have v2 : (zup (zup (zup (zup σ 9 0 ((n + 1 : Nat) : Int)) 68 (3 * n) r2) 68 (3 * n + 1) r3) 68 (3 * n + 2) (1 + r4)) 68 (3 * n + 2) = 1 + r4 := zup_at _ _ _ _
      have v3 : (zup (zup (zup (zup σ 9 0 ((n + 1 : Nat) : Int)) 68 (3 * n) r2) 68 (3 * n + 1) r3) 68 (3 * n + 2) (1 + r4)) 9 0 = ((n + 1 : Nat) : Int) := by rw [zup_of (by omega), zup_of (by omega), zup_of (by omega), zup_at]
      have v4 : ∀ i, i ≠ 0 → (zup (zup (zup (zup σ 9 0 ((n + 1 : Nat) : Int)) 68 (3 * n) r2) 68 (3 * n + 1) r3) 68 (3 * n + 2) (1 + r4)) 9 i = σ 9 i := fun i hi => by rw [zup_of (by omega), zup_of (by omega), zup_of (by omega), zup_of (by omega)]
      have v5 : ∀ i, i < 3 * n → (zup (zup (zup (zup σ 9 0 ((n + 1 : Nat) : Int)) 68 (3 * n) r2) 68 (3 * n + 1) r3) 68 (3 * n + 2) (1 + r4)) 68 i = σ 68 i := fun i hi => by rw [zup_of (by omega), zup_of (by omega), zup_of (by omega), zup_of (by omega)]
      have v6 : ∀ k, k ≠ 68 → k ≠ 9 → (zup (zup (zup (zup σ 9 0 ((n + 1 : Nat) : Int)) 68 (3 * n) r2) 68 (3 * n + 1) r3) 68 (3 * n + 2) (1 + r4)) k = σ k := fun k k1 k2 => by rw [zup_off k1, zup_off k1, zup_off k1, zup_off k2]
      have hC1 : CR (zup (zup (zup (zup σ 9 0 ((n + 1 : Nat) : Int)) 68 (3 * n) r2) 68 (3 * n + 1) r3) 68 (3 * n + 2) (1 + r4)) S B := hC.fl (fun k k1 k2 => v6 k (by omega) k1)
      rw [if_pos c3, hn0, wn, e2, zbI_some, w0, n0, zgd_pos (by omega), e3, zbI_some, w1, n1, zgd_pos (by omega), e4, zbI_some, w2, n2, zgd_pos (by omega), zgd_pos (by omega), zgd_pos (by omega), zgd_pos (by omega), wr, v0, v1, v2]
      generalize (zup (zup (zup (zup σ 9 0 ((n + 1 : Nat) : Int)) 68 (3 * n) r2) 68 (3 * n + 1) r3) 68 (3 * n + 2) (1 + r4)) = τ at v0 v1 v2 v3 v4 v5 v6 hC1 ⊢
      obtain ⟨σ', f1, f2, f3⟩ := g_breakDown hC1 (m := r2) (f := r3) (l := 1 + r4) (by rw [h3.1.1]; omega) (by omega) (by omega) (by omega)
      have w9 : zw (((n + 1 : Nat) : Int) - 1) = S 2 := by rw [zw_id (by omega) (by omega)]; omega
      rw [f1, zbI_some, f3.1, v3, w9, if_pos rfl]
      have s65 : σ' 65 = σ 65 := by rw [f3.2 65 (by omega), v6 65 (by decide) (by decide)]
      have s66 : σ' 66 = σ 66 := by rw [f3.2 66 (by omega), v6 66 (by decide) (by decide)]
      have s68 : σ' 68 = τ 68 := f3.2 68 (by omega)
      obtain ⟨d1, d2, d3, d4⟩ := brkS_at hn r2 r3 (1 + r4)
      have off : ∀ k, k < 143 → k ≠ 2 → brkS S r2 r3 (1 + r4) k = S k := fun k k1 k2 => brkS_off hn (by omega) (by omega) (by omega) k2
      have eo : ∀ j' : Nat, j' < 3 → rO (brkS S r2 r3 (1 + r4)) j' = rO S j' := fun j' _ => off _ (by omega) (by omega)
      have hl : ∀ j' o', Live (brkS S r2 r3 (1 + r4)) j' o' → Live S j' o' ∧ j' < 3 ∧ o' < 4 := fun j' o' q => by
        have q1 := q.1
        have q2 := q.2
        rw [off 1 (by omega) (by omega)] at q1
        have hj' : j' < 3 := by have := h3.1.2; omega
        rw [eo j' hj'] at q2
        have q3 : Live S j' o' := ⟨q1, q2⟩
        exact ⟨q3, h3.j3 q3⟩
      obtain ⟨y1, y2, y3, y4⟩ := hw
      refine ⟨_, _, σ', brkS S r2 r3 (1 + r4), rfl, f2, ⟨⟨⟨by rw [off 0 (by omega) (by omega)]; exact h3.1.1, by rw [off 1 (by omega) (by omega)]; exact h3.1.2⟩, by rw [d1]; omega, fun j' hj' => by rw [eo j' hj']; exact h3.2.2 j' hj'⟩, ⟨?_, fun j' hj' => ?_, fun j' o' q => ?_, fun b hb => ?_⟩, fun j' o' q => ?_, fun j' o' q => ?_, ?_, ?_⟩, fun j' o' q => ?_, fun j' hj' => ?_⟩
      · rw [f3.1, v3, d1]; omega
      · have ew : rW (brkS S r2 r3 (1 + r4)) j' = rW S j' := off _ (by omega) (by omega)
        have ed : rD (brkS S r2 r3 (1 + r4)) j' = rD S j' := off _ (by omega) (by omega)
        rw [s65, ew, ed, eo j' hj']; exact y2 j' hj'
      · obtain ⟨hl', z1, z2⟩ := hl j' o' q
        have em : sM (brkS S r2 r3 (1 + r4)) (5 * j' + o') = sM S (5 * j' + o') := off _ (by omega) (by omega)
        have eu : sU (brkS S r2 r3 (1 + r4)) (5 * j' + o') = sU S (5 * j' + o') := off _ (by omega) (by omega)
        rw [s66, em, eu]; exact y3 j' o' hl'
      · rw [d1] at hb
        rw [s68]
        by_cases cb : b = n
        · rw [cb, v0, v1, v2, d2, d3, d4]; exact ⟨rfl, rfl, rfl⟩
        · have k1 : bM (brkS S r2 r3 (1 + r4)) b = bM S b := brkS_off hn (by omega) (by omega) (by omega) (by omega)
          have k2 : bF (brkS S r2 r3 (1 + r4)) b = bF S b := brkS_off hn (by omega) (by omega) (by omega) (by omega)
          have k3 : bL (brkS S r2 r3 (1 + r4)) b = bL S b := brkS_off hn (by omega) (by omega) (by omega) (by omega)
          rw [k1, k2, k3, v5 _ (by omega), v5 _ (by omega), v5 _ (by omega)]
          exact y4 b (by omega)
      · obtain ⟨hl', z1, z2⟩ := hl j' o' q
        have e : sP (brkS S r2 r3 (1 + r4)) (5 * j' + o') = sP S (5 * j' + o') := off _ (by omega) (by omega)
        rw [s66, e]; exact hp j' o' hl'
      · obtain ⟨hl', z1, z2⟩ := hl j' o' q
        have e : sL (brkS S r2 r3 (1 + r4)) (5 * j' + o') = sL S (5 * j' + o') := off _ (by omega) (by omega)
        rw [s66, e]; exact ho j' o' hl'
      · rw [f3.1, v4 1 (by omega), off 3 (by omega) (by omega)]; exact h91
      · rw [f3.1, v4 2 (by omega), off 4 (by omega) (by omega)]; exact h92
      · obtain ⟨hl', z1, z2⟩ := hl j' o' q
        have em : sM (brkS S r2 r3 (1 + r4)) (5 * j' + o') = sM S (5 * j' + o') := off _ (by omega) (by omega)
        rw [em, off 0 (by omega) (by omega)]; exact hm j' o' hl'
      · have ed : rD (brkS S r2 r3 (1 + r4)) j' = rD S j' := off _ (by omega) (by omega)
        rw [ed]; exact hd j' hj'
    · rw [if_neg c3]
      exact q187_799 h
  · rw [if_neg c]
    exact q187_799 h
/-- what stands at a turn's end -/
theorem q187_837 (h : J2 σ S B t) (hB : 1150 ≤ B ∧ B ≤ 18000) (hmo : 0 ≤ l12 ∧ l12 ≤ 999) (hr : 0 ≤ l11 ∧ l11 ≤ 3) : ∃ σ' : zSt, zE 187 837 [some (zR 90), some (zR 0), some (zR 9), some (zR 65), some (zR 66), some (zR 67), some (zR 68), some (zI l7), some (zI l8), some (zI l9), some (zI l10), some (zI l11), some (zI l12), o13, o14] [] σ = zE 187 243 [some (zR 90), some (zR 0), some (zR 9), some (zR 65), some (zR 66), some (zR 67), some (zR 68), some (zI (zw (l7 + 1))), some (zI l8), some (zI l9), some (zI l10), some (zI l11), some (zI l12), o13, o14] [] σ' ∧ J2 σ' S B t := by
  obtain ⟨hC, hlw, hm, hd⟩ := h
  obtain ⟨σ1, a1, a2, a3⟩ := t185 hC hlw hm hB
  obtain ⟨σ2, b1, b2, b3⟩ := t186 a2 a3 hB hmo hr
  refine ⟨σ2, ?_, b2, b3, hm, hd⟩
  rw [X187_837, a1, zbI_some, if_neg i10, b1, zbI_some, if_neg i10]
/-- a turn -/
theorem q187_274 (h : J2 σ S B t) (hB : 1150 ≤ B ∧ B + 600 ≤ 18000) (ht : t < 9) (s0 : Int) (o9 o10 o11 o12 : Option zVal) : ∃ (y9 y10 y11 y12 y13 y14 : Option zVal) (σ' : zSt) (S' : Row), zE 187 274 [some (zR 90), some (zR 0), some (zR 9), some (zR 65), some (zR 66), some (zR 67), some (zR 68), some (zI (t : Int)), some (zI l8), o9, o10, o11, o12, o13, o14] [zI s0] σ = zE 187 243 [some (zR 90), some (zR 0), some (zR 9), some (zR 65), some (zR 66), some (zR 67), some (zR 68), some (zI ((t + 1 : Nat) : Int)), some (zI l8), y9, y10, y11, y12, y13, y14] [] σ' ∧ J2 σ' S' (B + 600) (t + 1) := by
  obtain ⟨r1, c1, c2, e1⟩ := t171 σ l8 (n := 8) (by omega)
  obtain ⟨r2, c3, c4, e2⟩ := t171 σ (zsh l8 3) (n := 4) (by omega)
  obtain ⟨r3, c5, c6, e3⟩ := t171 σ (zsh l8 5) (n := 50) (by omega)
  have nx : zw ((t : Int) + 1) = ((t + 1 : Nat) : Int) := zw_nat1 (by omega)
  have g3 := h.1.ok.1.1.2.2.2
  have h91 := h.2.1.2.2.2.2.1
  -- from 682 on
  have fin : ∀ (x13 x14 : Option zVal) (τ : zSt) (T : Row), J2 τ T (B + 600) (t + 1) → ∃ (y9 y10 y11 y12 y13 y14 : Option zVal) (σ' : zSt) (S' : Row), zE 187 682 [some (zR 90), some (zR 0), some (zR 9), some (zR 65), some (zR 66), some (zR 67), some (zR 68), some (zI (t : Int)), some (zI l8), some (zI s0), some (zI r1), some (zI r2), some (zI r3), x13, x14] [] τ = zE 187 243 [some (zR 90), some (zR 0), some (zR 9), some (zR 65), some (zR 66), some (zR 67), some (zR 68), some (zI ((t + 1 : Nat) : Int)), some (zI l8), y9, y10, y11, y12, y13, y14] [] σ' ∧ J2 σ' S' (B + 600) (t + 1) := by
    intro x13 x14 τ T hT
    obtain ⟨y13, y14, τ1, T1, k1, k2⟩ := q187_682 (l7 := (t : Int)) (l8 := l8) (l9 := s0) (l10 := r1) (l11 := r2) (l12 := r3) (o13 := x13) (o14 := x14) hT
    obtain ⟨τ2, k3, k4⟩ := q187_837 (l7 := (t : Int)) (l8 := l8) (l9 := s0) (l10 := r1) (l11 := r2) (l12 := r3) (o13 := y13) (o14 := y14) k2 (by omega) (by omega) (by omega)
    rw [nx] at k3
    exact ⟨_, _, _, _, _, _, τ2, T1, k1.trans k3, k4⟩
  have pl : ∃ (y9 y10 y11 y12 y13 y14 : Option zVal) (σ' : zSt) (S' : Row), zE 187 325 [some (zR 90), some (zR 0), some (zR 9), some (zR 65), some (zR 66), some (zR 67), some (zR 68), some (zI (t : Int)), some (zI l8), some (zI s0), some (zI r1), some (zI r2), some (zI r3), o13, o14] [] σ = zE 187 243 [some (zR 90), some (zR 0), some (zR 9), some (zR 65), some (zR 66), some (zR 67), some (zR 68), some (zI ((t + 1 : Nat) : Int)), some (zI l8), y9, y10, y11, y12, y13, y14] [] σ' ∧ J2 σ' S' (B + 600) (t + 1) := by
    obtain ⟨τ, T, k1, k2⟩ := q187_325 (l7 := (t : Int)) (l8 := l8) (l9 := s0) (l10 := r1) (l11 := r2) (l12 := r3) (o13 := o13) (o14 := o14) h (by omega) (by omega)
    obtain ⟨y9, y10, y11, y12, y13, y14, σ', S', k3, k4⟩ := fin o13 o14 τ T (k2.up (by omega) (by omega))
    exact ⟨y9, y10, y11, y12, y13, y14, σ', S', k1.trans k3, k4⟩
  have ot : (S 3 = 1 ∧ 2 ≤ r1) ∨ 6 ≤ r1 → ∃ (y9 y10 y11 y12 y13 y14 : Option zVal) (σ' : zSt) (S' : Row), zE 187 354 [some (zR 90), some (zR 0), some (zR 9), some (zR 65), some (zR 66), some (zR 67), some (zR 68), some (zI (t : Int)), some (zI l8), some (zI s0), some (zI r1), some (zI r2), some (zI r3), o13, o14] [] σ = zE 187 243 [some (zR 90), some (zR 0), some (zR 9), some (zR 65), some (zR 66), some (zR 67), some (zR 68), some (zI ((t + 1 : Nat) : Int)), some (zI l8), y9, y10, y11, y12, y13, y14] [] σ' ∧ J2 σ' S' (B + 600) (t + 1) := by
    intro hor
    by_cases d2 : r1 = 2
    · obtain ⟨τ, T, k1, k2⟩ := q187_sh (l7 := (t : Int)) (l8 := l8) (l9 := s0) (l11 := r2) (l12 := r3) (o13 := o13) (o14 := o14) h (by omega) (by omega)
      rw [← d2] at k1
      obtain ⟨y9, y10, y11, y12, y13, y14, σ', S', k3, k4⟩ := fin o13 o14 τ T (k2.up (by omega) (by omega))
      exact ⟨y9, y10, y11, y12, y13, y14, σ', S', k1.trans k3, k4⟩
    by_cases d4 : r1 < 5
    · obtain ⟨τ, T, k1, k2⟩ := q187_re (l7 := (t : Int)) (l8 := l8) (l9 := s0) (l10 := r1) (l11 := r2) (l12 := r3) (o13 := o13) (o14 := o14) h (by omega) (by omega) ⟨d2, d4⟩ (by omega) (by omega)
      obtain ⟨y9, y10, y11, y12, y13, y14, σ', S', k3, k4⟩ := fin o13 o14 τ T (k2.up (by omega) (by omega))
      exact ⟨y9, y10, y11, y12, y13, y14, σ', S', k1.trans k3, k4⟩
    by_cases d5 : r1 = 5
    · obtain ⟨x13, x14, τ, T, k1, k2⟩ := q187_ac (l7 := (t : Int)) (l8 := l8) (l9 := s0) (l11 := r2) (l12 := r3) (o13 := o13) (o14 := o14) h (by omega) (by omega)
      rw [← d5] at k1
      obtain ⟨y9, y10, y11, y12, y13, y14, σ', S', k3, k4⟩ := fin (some (zI x13)) (some (zI x14)) τ T (k2.up (by omega) (by omega))
      exact ⟨y9, y10, y11, y12, y13, y14, σ', S', k1.trans k3, k4⟩
    by_cases d6 : r1 = 6
    · obtain ⟨x13, x14, τ, T, k1, k2⟩ := q187_ba (l7 := (t : Int)) (l8 := l8) (l9 := s0) (l11 := r2) (l12 := r3) (o13 := o13) (o14 := o14) h (by omega)
      rw [← d6] at k1
      obtain ⟨y9, y10, y11, y12, y13, y14, σ', S', k3, k4⟩ := fin x13 x14 τ T (k2.up (by omega) (by omega))
      exact ⟨y9, y10, y11, y12, y13, y14, σ', S', k1.trans k3, k4⟩
    · obtain ⟨x13, x14, τ, T, k1, k2⟩ := q187_ov (l7 := (t : Int)) (l8 := l8) (l9 := s0) (l10 := r1) (l11 := r2) (l12 := r3) (o13 := o13) (o14 := o14) h (by omega)
      obtain ⟨y9, y10, y11, y12, y13, y14, σ', S', k3, k4⟩ := fin x13 x14 τ T (k2.up (by omega) (by omega))
      exact ⟨y9, y10, y11, y12, y13, y14, σ', S', k1.trans k3, k4⟩
  rw [X187_274, e1, zbI_some, e2, zbI_some, e3, zbI_some]
  by_cases d : r1 < 2
  · rw [if_pos d]; exact pl
  · rw [if_neg d, h91]
    by_cases w : S 3 = 0
    · rw [if_pos w]
      by_cases d6 : r1 < 6
      · rw [if_pos d6]; exact pl
      · rw [if_neg d6]; exact ot (Or.inr (by omega))
    · rw [if_neg w]; exact ot (Or.inl ⟨by omega, by omega⟩)
end LAWI
