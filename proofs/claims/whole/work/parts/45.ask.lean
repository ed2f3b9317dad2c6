/-! ===== 45: job, operation, meeting ===== -/
/-- a job's work -/
def wkS (S : Row) (j : Nat) : Int := f1 (fun o a => zw (a + sU S (5 * j + o))) (nO S j) 0
theorem s157 {σ : zSt} {S : Row} (hC : CS σ S) (hG : Good S) {j : Nat} (hj : (j : Int) < S 1) : zE 157 0 [some (zR 2), some (zI j), none, none] [] σ = zRI (wkS S j) σ := by
  have hj6 := hG.j6 hj
  have g5 := (hG.2.1 j hj).2.2
  have key := zloop1 (α := Int) (D := Unit) (nO S j) (fun o a => zw (a + sU S (5 * j + o))) (fun o a _ => zE 157 4 [some (zR 2), some (zI j), some (zI a), some (zI (o : Int))] [] σ) (fun a => zRI a σ) (fun _ _ => True) ?_ ?_ 0 () trivial
  · rw [X157_0]
    exact key.1
  · intro o a _ ho _
    have hl : Live S j o := ⟨hj, nO_lt.mp ho⟩
    have ho5 := hG.o5 hl
    refine ⟨⟨(), ?_⟩, trivial⟩
    show zE 157 4 [some (zR 2), some (zI j), some (zI a), some (zI (o : Int))] [] σ = _
    rw [X157_4, zgd_pos (by omega), toNat_n, (hC.2.1 j hj6).2.2, if_pos hl.2, s35 (by omega) (by omega), zbI_some, zgd_pos (by omega), toNat_n, (hC.2.2.1 (5 * j + o) (by omega)).2, zw_nat1 (by omega)]
  · intro a _ _
    show zE 157 4 [some (zR 2), some (zI j), some (zI a), some (zI ((nO S j : Nat) : Int))] [] σ = _
    rw [X157_4, zgd_pos (by omega), toNat_n, (hC.2.1 j hj6).2.2, if_neg (by unfold nO; omega)]
/-- a value of a job -/
def jbV (S : Row) (j : Nat) (k : Int) : Int := if k = 0 then rW S j else if k = 1 then rD S j else if k = 2 then rO S j else if k = 3 then wkS S j else if S 3 = 0 then -1 else if k = 4 then (if rO S j = 0 then -1 else zw (sP S (5 * j + (nO S j - 1)) + sU S (5 * j + (nO S j - 1)))) else lt S 3 j
theorem jbV_4 {S : Row} {j : Nat} : jbV S j 4 = if S 3 = 0 then -1 else (if rO S j = 0 then -1 else zw (sP S (5 * j + (nO S j - 1)) + sU S (5 * j + (nO S j - 1)))) := by
  unfold jbV
  rw [if_neg (by decide), if_neg (by decide), if_neg (by decide), if_neg (by decide)]
  by_cases c : S 3 = 0
  · rw [if_pos c, if_pos c]
  · rw [if_neg c, if_neg c, if_pos rfl]
theorem jbV_5 {S : Row} {j : Nat} : jbV S j 5 = if S 3 = 0 then -1 else lt S 3 j := by
  unfold jbV
  rw [if_neg (by decide), if_neg (by decide), if_neg (by decide), if_neg (by decide)]
  by_cases c : S 3 = 0
  · rw [if_pos c, if_pos c]
  · rw [if_neg c, if_neg c, if_neg (by decide)]
theorem c_job {σ : zSt} {S : Row} (h : ShC (shF σ 0) (shA σ 0) S) (hG : Good S) {j : Nat} (hj : (j : Int) < S 1) {k : Int} (hk : 0 ≤ k ∧ k ≤ 5) : zE 11 0 [some (zR 0), some (zI j), some (zI k)] [] σ = zRI (jbV S j k) σ := by
  have hj6 := hG.j6 hj
  have g5 := (hG.2.1 j hj).2.2
  obtain ⟨y1, y2, y3⟩ := h.2.1 j hj6
  have y1' : σ 10 j = rW S j := y1
  have y2' : σ 11 j = rD S j := y2
  have y3' : σ 12 j = rO S j := y3
  have f1' : σ 2 1 = S 1 := h.1.2.1
  have f3' : σ 2 11 = S 3 := h.1.2.2.2.1
  have g3 := hG.1.2.2.2
  rw [X11_0, s147, zbI_some, f1', if_pos (c := 0 ≤ (j : Int) ∧ (j : Int) < S 1) (by omega), if_neg i10, s33, zbI_some, if_pos hk, if_neg i10]
  rcases (show k = 0 ∨ k = 1 ∨ k = 2 ∨ k = 3 ∨ k = 4 ∨ k = 5 by omega) with q | q | q | q | q | q
  · subst q; unfold jbV; rw [if_pos rfl, if_pos rfl, zgd_pos (by omega), toNat_n, y1']
  · subst q; unfold jbV; rw [if_neg (by decide), if_pos rfl, if_neg (by decide), if_pos rfl, zgd_pos (by omega), toNat_n, y2']
  · subst q; unfold jbV; rw [if_neg (by decide), if_neg (by decide), if_pos rfl, if_neg (by decide), if_neg (by decide), if_pos rfl, zgd_pos (by omega), toNat_n, y3']
  · subst q; unfold jbV; rw [if_neg (by decide), if_neg (by decide), if_neg (by decide), if_pos rfl, if_neg (by decide), if_neg (by decide), if_neg (by decide), if_pos rfl, s157 h.cs hG hj, zbI_some]
  · subst q
    rw [if_neg (by decide), if_neg (by decide), if_neg (by decide), if_neg (by decide), if_pos rfl, f3', jbV_4]
    rcases g3 with w | w
    · rw [if_pos w, if_pos w]
    · rw [if_neg (show ¬ S 3 = 0 by omega), if_neg (show ¬ S 3 = 0 by omega), zgd_pos (by omega), toNat_n, y3']
      by_cases c : rO S j = 0
      · rw [if_pos (by omega), if_pos c]
      · have hp := h.2.2.2.2 w
        rw [if_neg (by omega), if_neg c, s159 h.cs hG (p := 3) (k := 19) (by rfl) (fun j o hl => (hp j o hl).2) hj, zbI_some, if_neg c]
        rfl
  · subst q
    rw [if_neg (by decide), if_neg (by decide), if_neg (by decide), if_neg (by decide), if_neg (by decide), f3', jbV_5]
    rcases g3 with w | w
    · rw [if_pos w, if_pos w]
    · have hp := h.2.2.2.2 w
      rw [if_neg (show ¬ S 3 = 0 by omega), if_neg (show ¬ S 3 = 0 by omega), s160 h.cs hG (p := 3) (k := 19) (by rfl) (fun j o hl => (hp j o hl).2) hj, zbI_some]
theorem s81 {σ : zSt} (hG : Good (σ 65)) {j : Nat} (hj : (j : Int) < σ 65 1) {k : Int} (hk : 0 ≤ k ∧ k ≤ 5) : zE 81 0 [some (zR 9), some (zI j), some (zI k), none, none, none] [] σ = zRI (jbV (σ 65) j k) σ := by
  have hj6 := hG.j6 hj
  have g5 := (hG.2.1 j hj).2.2
  have g3 := hG.1.2.2.2
  have key := zloop1 (α := Int) (D := Unit) (nO (σ 65) j) (fun o a => zw (a + sU (σ 65) (5 * j + o))) (fun o a _ => zE 81 13 [some (zR 9), some (zI j), some (zI k), some (zI (rO (σ 65) j)), some (zI a), some (zI (o : Int))] [] σ) (fun a => zE 81 13 [some (zR 9), some (zI j), some (zI k), some (zI (rO (σ 65) j)), some (zI a), some (zI (rO (σ 65) j))] [] σ) (fun _ _ => True) ?_ ?_ 0 () trivial
  · rw [X81_0, s42_2 hj6, zbI_some]
    refine key.1.trans ?_
    show zE 81 13 [some (zR 9), some (zI j), some (zI k), some (zI (rO (σ 65) j)), some (zI (wkS (σ 65) j)), some (zI (rO (σ 65) j))] [] σ = _
    rw [X81_13, if_neg (by omega)]
    rcases (show k = 0 ∨ k = 1 ∨ k = 2 ∨ k = 3 ∨ k = 4 ∨ k = 5 by omega) with q | q | q | q | q | q
    · subst q; unfold jbV; rw [if_neg (by decide), if_neg (by decide), if_neg (by decide), if_pos rfl, s42_0 hj6, zbI_some]
    · subst q; unfold jbV; rw [if_neg (by decide), if_neg (by decide), if_neg (by decide), if_neg (by decide), if_pos rfl, s42_1 hj6, zbI_some]
    · subst q; unfold jbV; rw [if_neg (by decide), if_neg (by decide), if_neg (by decide), if_neg (by decide), if_neg (by decide), if_pos rfl, s42_2 hj6, zbI_some]
    · subst q; unfold jbV; rw [if_pos rfl, if_neg (by decide), if_neg (by decide), if_neg (by decide), if_pos rfl]
    · subst q
      rw [if_neg (by decide), if_pos rfl, s73, zbI_some, jbV_4]
      rcases g3 with w | w
      · rw [w, if_neg (show ¬ (0 : Int) = 1 by decide), if_pos rfl, if_pos rfl]
      · rw [w, if_pos rfl, if_neg i10, if_neg i10]
        by_cases c : rO (σ 65) j = 0
        · rw [if_pos (by omega), if_pos c]
        · obtain ⟨o, ho⟩ : ∃ o : Nat, rO (σ 65) j = (o : Int) + 1 := ⟨(rO (σ 65) j - 1).toNat, by omega⟩
          have hn : nO (σ 65) j - 1 = o := by unfold nO; omega
          rw [if_neg (by omega), if_neg c, hn, ho, zw_id (x := (o : Int) + 1 - 1) (by omega) (by omega), show (o : Int) + 1 - 1 = (o : Int) by omega, s60_3 hj6 (by omega), zbI_some]
    · subst q
      rw [if_neg (by decide), if_neg (by decide), if_pos rfl, s73, zbI_some, jbV_5]
      rcases g3 with w | w
      · rw [w, if_neg (show ¬ (0 : Int) = 1 by decide), if_pos rfl, if_pos rfl]
      · have e5 := s65 hG hj (p := 3) (by omega)
        have e5' : zE 65 0 [some (zR 9), some (zI j), some (zI 3), none, none] [] σ = _ := e5
        rw [w, if_pos rfl, if_neg i10, if_neg i10, e5', zbI_some]
  · intro o a _ ho _
    have hl : Live (σ 65) j o := ⟨hj, nO_lt.mp ho⟩
    have ho5 := hG.o5 hl
    refine ⟨⟨(), ?_⟩, trivial⟩
    show zE 81 13 [some (zR 9), some (zI j), some (zI k), some (zI (rO (σ 65) j)), some (zI a), some (zI (o : Int))] [] σ = _
    rw [X81_13, if_pos hl.2, s44_1 hj6 ho5, zbI_some, zw_nat1 (by omega)]
  · intro a _ _
    have e : ((nO (σ 65) j : Nat) : Int) = rO (σ 65) j := by unfold nO; omega
    show zE 81 13 [some (zR 9), some (zI j), some (zI k), some (zI (rO (σ 65) j)), some (zI a), some (zI ((nO (σ 65) j : Nat) : Int))] [] σ = _
    rw [e]
theorem f_job {σ τ : zSt} {S : Row} {c : Nat} {H : Nat → Row} {t : Nat} {T : Row} {B : Int} (h : RC σ S c H t T) (g : RM τ S c H t T) (a : RA S c H t T B) (j k : Int) : Both [3, 1] (zE 11 0 [some (zR 0), some (zI j), some (zI k)] [] σ) (zE 82 0 [some (zR 9), some (zI j), some (zI k)] [] τ) σ τ S c H t T B := by
  have hG := a.1.1
  have hGτ : Good (τ 65) := by rw [g.1]; exact hG
  rw [X82_0, s41 hGτ, zbI_some, g.1]
  by_cases c1 : 0 ≤ j ∧ j < S 1
  · obtain ⟨n, rfl⟩ : ∃ n : Nat, j = (n : Int) := ⟨j.toNat, by omega⟩
    rw [if_pos c1, if_neg i10, s38, zbI_some, X82_27, zup_at]
    by_cases c2 : 0 ≤ k ∧ k ≤ 5
    · rw [if_pos c2, if_neg i10, if_pos (Int.le_refl 0), c_job h.1 hG c1.2 c2, s81 (by rw [zup9_65]; exact hGτ) (by rw [zup9_65, g.1]; exact c1.2) c2, zbI_some, zup9_65, g.1]
      exact Both.q h g a _ rfl rfl
    · rw [if_neg c2, if_pos rfl, X11_0, s147, zbI_some, h.fld.2.1, if_pos c1, if_neg i10, s33, zbI_some, if_neg c2, if_pos rfl]
      exact bad3 g 1 1 rfl
  · rw [if_neg c1, if_pos rfl, X11_0, s147, zbI_some, h.fld.2.1, if_neg c1, if_pos rfl, X82_27, zup_at]
    exact bad3 g 0 3 rfl
/-- a value of an operation -/
noncomputable def opV (S : Row) (j o : Nat) (k : Int) : Int := if k = 0 then sM S (5 * j + o) else if k = 1 then sU S (5 * j + o) else if S 3 = 0 then -1 else if k = 2 then sL S (5 * j + o) else if k = 3 then sP S (5 * j + o) else @ite _ (Hits S (5 * j + o) (sP S (5 * j + o))) (Classical.propDecidable _) 1 0
theorem c_operation {σ : zSt} {S : Row} {B : Int} (h : ShC (shF σ 0) (shA σ 0) S) (hO : Ok S B) (hB : B ≤ 800000) {j o : Nat} (hl : Live S j o) {k : Int} (hk : 0 ≤ k ∧ k ≤ 4) : zE 12 0 [some (zR 0), some (zI j), some (zI o), some (zI k), none] [] σ = zRI (opV S j o k) σ := by
  have hG := hO.1
  have hj6 := hG.j6 hl.1
  have ho5 := hG.o5 hl
  have g1 := hG.1.2.1
  obtain ⟨y1, y2⟩ := h.2.2.1 (5 * j + o) (by omega)
  have y1' : σ 13 (5 * j + o) = sM S (5 * j + o) := y1
  have y2' : σ 14 (5 * j + o) = sU S (5 * j + o) := y2
  have y3' : σ 12 j = rO S j := (h.2.1 j hj6).2.2
  have f1' : σ 2 1 = S 1 := h.1.2.1
  have f3' : σ 2 11 = S 3 := h.1.2.2.2.1
  have g3 := hG.1.2.2.2
  have hl1 := hl.1
  have hl2 := hl.2
  rw [X12_0, s148 (by rw [f1']; omega), zbI_some, f1', toNat_n, y3', if_pos (c := (0 ≤ (j : Int) ∧ (j : Int) < S 1) ∧ 0 ≤ (o : Int) ∧ (o : Int) < rO S j) (by omega), if_neg i10, s33, zbI_some, if_pos hk, if_neg i10, s35 (by omega) (by omega), zbI_some]
  unfold opV
  rcases (show k = 0 ∨ k = 1 ∨ 2 ≤ k by omega) with q | q | q
  · subst q; rw [if_pos rfl, if_pos rfl, zgd_pos (by omega), toNat_n, y1']
  · subst q; rw [if_neg (by decide), if_pos rfl, if_neg (by decide), if_pos rfl, zgd_pos (by omega), toNat_n, y2']
  · rw [if_neg (show ¬ k = 0 by omega), if_neg (show ¬ k = 1 by omega), if_neg (show ¬ k = 0 by omega), if_neg (show ¬ k = 1 by omega), f3']
    rcases g3 with w | w
    · rw [if_pos w, if_pos w]
    · rw [if_neg (show ¬ S 3 = 0 by omega), if_neg (show ¬ S 3 = 0 by omega)]
      obtain ⟨p1, p2⟩ := h.2.2.2.2 w j o hl
      have p1' : σ 18 (5 * j + o) = sL S (5 * j + o) := p1
      have p2' : σ 19 (5 * j + o) = sP S (5 * j + o) := p2
      rcases (show k = 2 ∨ k = 3 ∨ k = 4 by omega) with q2 | q2 | q2
      · subst q2; rw [if_pos rfl, if_pos rfl, zgd_pos (by omega), toNat_n, p1']
      · subst q2; rw [if_neg (by decide), if_pos rfl, if_neg (by decide), if_pos rfl, zgd_pos (by omega), toNat_n, p2']
      · subst q2
        obtain ⟨v2, v3⟩ := hO.2 w
        have hp := v3.1 j o hl
        have e3 : S (23 + 3 + 4 * (5 * j + o)) = sP S (5 * j + o) := rfl
        rw [e3] at hp
        obtain ⟨q1, q2⟩ := s164 h.cs hG (i := 5 * j + o) (by omega) (hG.2.2.1 j o hl.1 hl.2).2 (t := sP S (5 * j + o)) (by omega)
        rw [if_neg (by decide), if_neg (by decide), if_neg (by decide), if_neg (by decide), zgd_pos (by omega), toNat_n, p2']
        by_cases q : Hits S (5 * j + o) (sP S (5 * j + o))
        · rw [q1 q, zbI_some, if_neg i10, if_pos q]
        · rw [q2 q, zbI_some, if_pos rfl, if_neg q]
theorem s84 {σ : zSt} {B : Int} (hO : Ok (σ 65) B) (hB : B ≤ 800000) {j o : Nat} (hl : Live (σ 65) j o) {k : Int} (hk : 0 ≤ k ∧ k ≤ 4) : zE 84 0 [some (zR 9), some (zI j), some (zI o), some (zI k)] [] σ = zRI (opV (σ 65) j o k) σ := by
  have hG := hO.1
  have hj6 := hG.j6 hl.1
  have ho5 := hG.o5 hl
  have g3 := hG.1.2.2.2
  unfold opV
  rw [X84_0]
  rcases (show k = 0 ∨ k = 1 ∨ 2 ≤ k by omega) with q | q | q
  · subst q; rw [if_pos (by decide), if_pos rfl, X84_14, if_neg (by decide), s44_0 hj6 ho5, zbI_some]
  · subst q; rw [if_pos (by decide), if_neg (by decide), if_pos rfl, X84_14, if_neg (by decide), s44_1 hj6 ho5, zbI_some]
  · rw [if_neg (by omega), if_neg (by omega), if_neg (by omega), s73, zbI_some]
    rcases g3 with w | w
    · rw [w, if_neg (show ¬ (0 : Int) = 1 by decide), if_pos rfl, if_pos rfl]
    · rw [w, if_pos rfl, if_neg i10, if_neg i10, X84_14]
      rcases (show k = 2 ∨ k = 3 ∨ k = 4 by omega) with q2 | q2 | q2
      · subst q2; rw [if_neg (by decide), if_pos rfl, s44_2 hj6 ho5, zbI_some]
      · subst q2; rw [if_neg (by decide), if_neg (by decide), if_pos rfl, s44_3 hj6 ho5, zbI_some]
      · subst q2
        obtain ⟨v2, v3⟩ := hO.2 w
        obtain ⟨q1, q2⟩ := s83 hG v3 hB hl
        rw [if_pos rfl, if_neg (by decide), if_neg (by decide)]
        by_cases q : Hits (σ 65) (5 * j + o) (sP (σ 65) (5 * j + o))
        · rw [q1 q, zbI_some, if_pos q]
        · rw [q2 q, zbI_some, if_neg q]
theorem f_operation {σ τ : zSt} {S : Row} {c : Nat} {H : Nat → Row} {t : Nat} {T : Row} {B : Int} (hB : B ≤ 800000) (h : RC σ S c H t T) (g : RM τ S c H t T) (a : RA S c H t T B) (j o k : Int) : Both [3, 1] (zE 12 0 [some (zR 0), some (zI j), some (zI o), some (zI k), none] [] σ) (zE 85 0 [some (zR 9), some (zI j), some (zI o), some (zI k)] [] τ) σ τ S c H t T B := by
  have hG := a.1.1
  have g1 := hG.1.2.1
  have hGτ : Good (τ 65) := by rw [g.1]; exact hG
  have hc : ((0 ≤ j ∧ j < S 1) ∧ 0 ≤ o ∧ o < σ 12 j.toNat) ↔ ((0 ≤ j ∧ j < S 1) ∧ 0 ≤ o ∧ o < rO S j.toNat) := by
    constructor
    · rintro ⟨q, r⟩
      have e : σ 12 j.toNat = rO S j.toNat := (h.1.2.1 j.toNat (by omega)).2.2
      rw [e] at r; exact ⟨q, r⟩
    · rintro ⟨q, r⟩
      have e : σ 12 j.toNat = rO S j.toNat := (h.1.2.1 j.toNat (by omega)).2.2
      rw [← e] at r; exact ⟨q, r⟩
  rw [X85_0, s45 hGτ, zbI_some, g.1]
  by_cases c1 : (0 ≤ j ∧ j < S 1) ∧ 0 ≤ o ∧ o < rO S j.toNat
  · rw [if_pos c1, if_neg i10, s38, zbI_some, X85_28, zup_at]
    by_cases c2 : 0 ≤ k ∧ k ≤ 4
    · obtain ⟨n, rfl⟩ : ∃ n : Nat, j = (n : Int) := ⟨j.toNat, by omega⟩
      obtain ⟨m, rfl⟩ : ∃ m : Nat, o = (m : Int) := ⟨o.toNat, by omega⟩
      rw [toNat_n] at c1
      have hl : Live S n m := ⟨c1.1.2, c1.2.2⟩
      rw [if_pos c2, if_neg i10, if_pos (Int.le_refl 0), c_operation h.1 a.1 hB hl c2, s84 (B := B) (by rw [zup9_65, g.1]; exact a.1) hB (by rw [zup9_65, g.1]; exact hl) c2, zbI_some, zup9_65, g.1]
      exact Both.q h g a _ rfl rfl
    · rw [if_neg c2, if_pos rfl, X12_0, s148 (by rw [h.fld.2.1]; omega), zbI_some, h.fld.2.1, if_pos (hc.mpr c1), if_neg i10, s33, zbI_some, if_neg c2, if_pos rfl]
      exact bad3 g 1 1 rfl
  · rw [if_neg c1, if_pos rfl, X12_0, s148 (by rw [h.fld.2.1]; omega), zbI_some, h.fld.2.1, if_neg (fun q => c1 (hc.mp q)), if_pos rfl, X85_28, zup_at]
    exact bad3 g 0 3 rfl
/-- when the present plan leaves the old one for good -/
def mtS (S : Row) : Int := fA S (fun j o a => if sL S (5 * j + o) = sP S (5 * j + o) then a else max a (sL S (5 * j + o) + 1)) 0
theorem s167 {σ : zSt} {S : Row} {B : Int} (hC : CS σ S) (hG : Good S) (hV : Val S 2 B) (hB : B ≤ 800000) (hA : ∀ j o, Live S j o → σ 18 (5 * j + o) = sL S (5 * j + o) ∧ σ 19 (5 * j + o) = sP S (5 * j + o)) : zE 167 0 [some (zR 2), none, none, none, none] [] σ = zRI (mtS S) σ := by
  have key := zloop2 (α := Int) (D := Option zVal × Option zVal) (E := Option zVal) (nJ S) (nO S) (fun j o a => if sL S (5 * j + o) = sP S (5 * j + o) then a else max a (sL S (5 * j + o) + 1))
    (fun j a d => zE 167 4 [some (zR 2), some (zI a), some (zI (j : Int)), d.1, d.2] [] σ)
    (fun j o a d => zE 167 14 [some (zR 2), some (zI a), some (zI (j : Int)), some (zI (o : Int)), d] [] σ)
    (fun a => zRI a σ) (fun _ _ _ => True) ?_ ?_ ?_ ?_ 0 (none, none) trivial
  · rw [X167_0]
    exact key.1
  · intro j a d hj hi
    refine ⟨d.2, ?_⟩
    show zE 167 4 [some (zR 2), some (zI a), some (zI (j : Int)), d.1, d.2] [] σ = _
    rw [X167_4, if_pos (by rw [hC.1.2.1]; exact nJ_lt.mp hj)]
    rfl
  · intro j o a d hj ho hi
    have hl := liveN hj ho
    have hj6 := hG.j6 hl.1
    have ho5 := hG.o5 hl
    have hp := hV.1 j o hl
    have e3 : S (23 + 2 + 4 * (5 * j + o)) = sL S (5 * j + o) := rfl
    rw [e3] at hp
    refine ⟨⟨some (zI ((5 * j + o : Nat) : Int)), ?_⟩, trivial⟩
    show zE 167 14 [some (zR 2), some (zI a), some (zI (j : Int)), some (zI (o : Int)), d] [] σ = _
    rw [X167_14, zgd_pos (by omega), toNat_n, (hC.2.1 j hj6).2.2, if_pos hl.2, s35 (by omega) (by omega), zbI_some, zgd_pos (by omega), zgd_pos (by omega), toNat_n, (hA j o hl).1, (hA j o hl).2]
    by_cases q : sL S (5 * j + o) = sP S (5 * j + o)
    · rw [if_pos q, if_pos q, zw_nat1 (by omega)]
    · rw [if_neg q, if_neg q, zgd_pos (by omega), zw_nat1 (by omega), zw_id (x := sL S (5 * j + o) + 1) (by omega) (by omega)]
  · intro j a d hj hi
    have hj6 := hG.j6 (nJ_lt.mp hj)
    have h5 : nO S j ≤ 5 := by have := (hG.2.1 j (nJ_lt.mp hj)).2.2; unfold nO; omega
    refine ⟨⟨(some (zI ((nO S j : Nat) : Int)), d), ?_⟩, trivial⟩
    show zE 167 14 [some (zR 2), some (zI a), some (zI (j : Int)), some (zI ((nO S j : Nat) : Int)), d] [] σ = _
    rw [X167_14, zgd_pos (by omega), toNat_n, (hC.2.1 j hj6).2.2, if_neg (by unfold nO; omega), zw_nat1 (by omega)]
  · intro a d hi
    show zE 167 4 [some (zR 2), some (zI a), some (zI ((nJ S : Nat) : Int)), d.1, d.2] [] σ = _
    rw [X167_4, if_neg (by rw [hC.1.2.1]; have := hG.1.2.1; unfold nJ; omega)]
theorem s92 {σ : zSt} {B : Int} (hO : Ok (σ 65) B) (hB : B ≤ 800000) : zE 92 0 [some (zR 9), none, none, none, none] [] σ = zRI (if σ 65 3 = 1 then mtS (σ 65) else -1) σ := by
  have hG := hO.1
  by_cases w : σ 65 3 = 1
  · obtain ⟨v2, v3⟩ := hO.2 w
    have key := zloop2 (α := Int) (D := Option zVal × Option zVal) (E := Option zVal) (nJ (σ 65)) (nO (σ 65)) (fun j o a => if sL (σ 65) (5 * j + o) = sP (σ 65) (5 * j + o) then a else max a (sL (σ 65) (5 * j + o) + 1))
      (fun j a d => zE 92 15 [some (zR 9), some (zI a), some (zI (j : Int)), d.1, d.2] [] σ)
      (fun j o a d => zE 92 34 [some (zR 9), some (zI a), some (zI (j : Int)), some (zI (o : Int)), d] [] σ)
      (fun a => zRI a σ) (fun _ _ _ => True) ?_ ?_ ?_ ?_ 0 (none, none) trivial
    · rw [X92_0, s73, zbI_some, w, if_pos rfl, if_pos rfl, if_neg i10]
      exact key.1
    · intro j a d hj hi
      refine ⟨d.2, ?_⟩
      show zE 92 15 [some (zR 9), some (zI a), some (zI (j : Int)), d.1, d.2] [] σ = _
      rw [X92_15, if_pos (nJ_lt.mp hj), s73, zbI_some, w, if_pos rfl, if_neg i10]
      rfl
    · intro j o a d hj ho hi
      have hl := liveN hj ho
      have hj6 := hG.j6 hl.1
      have ho5 := hG.o5 hl
      have hp := v2.1 j o hl
      have e3 : σ 65 (23 + 2 + 4 * (5 * j + o)) = sL (σ 65) (5 * j + o) := rfl
      rw [e3] at hp
      by_cases q : sL (σ 65) (5 * j + o) = sP (σ 65) (5 * j + o)
      · refine ⟨⟨some (zI 0), ?_⟩, trivial⟩
        show zE 92 34 [some (zR 9), some (zI a), some (zI (j : Int)), some (zI (o : Int)), d] [] σ = _
        rw [X92_34, s42_2 hj6, zbI_some, if_pos hl.2, s44_2 hj6 ho5, zbI_some, s44_3 hj6 ho5, zbI_some, if_pos q, X92_66, if_pos rfl, if_pos q, zw_nat1 (by omega)]
      · refine ⟨⟨some (zI 1), ?_⟩, trivial⟩
        show zE 92 34 [some (zR 9), some (zI a), some (zI (j : Int)), some (zI (o : Int)), d] [] σ = _
        rw [X92_34, s42_2 hj6, zbI_some, if_pos hl.2, s44_2 hj6 ho5, zbI_some, s44_3 hj6 ho5, zbI_some, if_neg q, X92_66, if_neg i10, s44_2 hj6 ho5, zbI_some, s44_2 hj6 ho5, zbI_some, zw_id (x := sL (σ 65) (5 * j + o) + 1) (by omega) (by omega), zw_nat1 (by omega), if_neg q]
        by_cases q2 : sL (σ 65) (5 * j + o) + 1 ≤ a
        · rw [if_pos q2, show max a (sL (σ 65) (5 * j + o) + 1) = a by omega]
        · rw [if_neg q2, show max a (sL (σ 65) (5 * j + o) + 1) = sL (σ 65) (5 * j + o) + 1 by omega]
    · intro j a d hj hi
      have hj6 := hG.j6 (nJ_lt.mp hj)
      have h5 : nO (σ 65) j ≤ 5 := by have := (hG.2.1 j (nJ_lt.mp hj)).2.2; unfold nO; omega
      refine ⟨⟨(some (zI ((nO (σ 65) j : Nat) : Int)), d), ?_⟩, trivial⟩
      show zE 92 34 [some (zR 9), some (zI a), some (zI (j : Int)), some (zI ((nO (σ 65) j : Nat) : Int)), d] [] σ = _
      rw [X92_34, s42_2 hj6, zbI_some, if_neg (by unfold nO; omega), zw_nat1 (by omega)]
    · intro a d hi
      show zE 92 15 [some (zR 9), some (zI a), some (zI ((nJ (σ 65) : Nat) : Int)), d.1, d.2] [] σ = _
      rw [X92_15, if_neg (by have := hG.1.2.1; unfold nJ; omega)]
  · rw [X92_0, s73, zbI_some, if_neg w, if_pos rfl, X92_15, if_neg w]
    by_cases q : 0 < σ 65 1
    · rw [if_pos q, s73, zbI_some, if_neg w, if_pos rfl]
    · rw [if_neg q]
theorem c_meeting {σ : zSt} {S : Row} {B : Int} (h : ShC (shF σ 0) (shA σ 0) S) (hO : Ok S B) (hB : B ≤ 800000) : zE 15 0 [some (zR 0)] [] σ = zRI (if S 3 = 1 then mtS S else -1) σ := by
  have hG := hO.1
  have g3 := hG.1.2.2.2
  have f3' : σ 2 11 = S 3 := h.1.2.2.2.1
  rw [X15_0, f3']
  by_cases w : S 3 = 1
  · rw [if_neg (by omega), if_pos w, s167 h.cs hG (hO.2 w).1 hB (h.2.2.2.2 w), zbI_some]
  · rw [if_pos (by omega), if_neg w]
theorem f_meeting {σ τ : zSt} {S : Row} {c : Nat} {H : Nat → Row} {t : Nat} {T : Row} {B : Int} (hB : B ≤ 800000) (h : RC σ S c H t T) (g : RM τ S c H t T) (a : RA S c H t T B) : Both [] (zE 15 0 [some (zR 0)] [] σ) (zE 93 0 [some (zR 9)] [] τ) σ τ S c H t T B := by
  rw [c_meeting h.1 a.1 hB, X93_0, s92 (B := B) (by rw [zup9_65, g.1]; exact a.1) hB, zbI_some, zup9_65, g.1]
  exact Both.q h g a _ rfl rfl
