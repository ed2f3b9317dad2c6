/-! ===== 45: job, operation, meeting ===== -/
/-- a job's work -/
def wkS (S : Row) (j : Nat) : Int := f1 (fun o a => zw (a + sU S (5 * j + o))) (nO S j) 0
theorem s157 {σ : zSt} {S : Row} (hC : CS σ S) (hG : Good S) {j : Nat} (hj : (j : Int) < S 1) : zE 157 0 [some (zR 2), some (zI j), none, none] [] σ = zRI (wkS S j) σ := by
  have hj6 := hG.j6 hj
  have g5 := (hG.2.1 j hj).2.2
  have key := zloop1 (α := Int) (D := Unit) (nO S j) (fun o a => zw (a + sU S (5 * j + o))) (fun o a _ => zE 157 4 [some (zR 2), some (zI j), some (zI a), some (zI (o : Int))] [] σ) (fun a => zRI a σ) (fun _ _ => True) ?_ ?_ 0 () trivial
  · rw [X157_0]
    exact key.1
  · intro o a _ ho _
    have hl : Live S j o := ⟨hj, nO_lt.mp ho⟩
    have ho5 := hG.o5 hl
    refine ⟨⟨(), ?_⟩, trivial⟩
    show zE 157 4 [some (zR 2), some (zI j), some (zI a), some (zI (o : Int))] [] σ = _
    rw [X157_4, zgd_pos (by omega), toNat_n, (hC.2.1 j hj6).2.2, if_pos hl.2, s35 (by omega) (by omega), zbI_some, zgd_pos (by omega), toNat_n, (hC.2.2.1 (5 * j + o) (by omega)).2, zw_nat1 (by omega)]
  · intro a _ _
    show zE 157 4 [some (zR 2), some (zI j), some (zI a), some (zI ((nO S j : Nat) : Int))] [] σ = _
    rw [X157_4, zgd_pos (by omega), toNat_n, (hC.2.1 j hj6).2.2, if_neg (by unfold nO; omega)]
/-- a value of a job -/
def jbV (S : Row) (j : Nat) (k : Int) : Int := if k = 0 then rW S j else if k = 1 then rD S j else if k = 2 then rO S j else if k = 3 then wkS S j else if S 3 = 0 then -1 else if k = 4 then (if rO S j = 0 then -1 else zw (sP S (5 * j + (nO S j - 1)) + sU S (5 * j + (nO S j - 1)))) else lt S 3 j
theorem jbV_4 {S : Row} {j : Nat} : jbV S j 4 = if S 3 = 0 then -1 else (if rO S j = 0 then -1 else zw (sP S (5 * j + (nO S j - 1)) + sU S (5 * j + (nO S j - 1)))) := by
  unfold jbV
  rw [if_neg (by decide), if_neg (by decide), if_neg (by decide), if_neg (by decide)]
  by_cases c : S 3 = 0
  · rw [if_pos c, if_pos c]
  · rw [if_neg c, if_neg c, if_pos rfl]
theorem jbV_5 {S : Row} {j : Nat} : jbV S j 5 = if S 3 = 0 then -1 else lt S 3 j := by
  unfold jbV
  rw [if_neg (by decide), if_neg (by decide), if_neg (by decide), if_neg (by decide)]
  by_cases c : S 3 = 0
  · rw [if_pos c, if_pos c]
  · rw [if_neg c, if_neg c, if_neg (by decide)]
theorem c_job {σ : zSt} {S : Row} (h : ShC (shF σ 0) (shA σ 0) S) (hG : Good S) {j : Nat} (hj : (j : Int) < S 1) {k : Int} (hk : 0 ≤ k ∧ k ≤ 5) : zE 11 0 [some (zR 0), some (zI j), some (zI k)] [] σ = zRI (jbV S j k) σ := by
  have hj6 := hG.j6 hj
  have g5 := (hG.2.1 j hj).2.2
  obtain ⟨y1, y2, y3⟩ := h.2.1 j hj6
  have y1' : σ 10 j = rW S j := y1
  have y2' : σ 11 j = rD S j := y2
  have y3' : σ 12 j = rO S j := y3
  have f1' : σ 2 1 = S 1 := h.1.2.1
  have f3' : σ 2 11 = S 3 := h.1.2.2.2.1
  have g3 := hG.1.2.2.2
  rw [X11_0, s147, zbI_some, f1', if_pos (c := 0 ≤ (j : Int) ∧ (j : Int) < S 1) (by omega), if_neg i10, s33, zbI_some, if_pos hk, if_neg i10]
  rcases (show k = 0 ∨ k = 1 ∨ k = 2 ∨ k = 3 ∨ k = 4 ∨ k = 5 by omega) with q | q | q | q | q | q
  · subst q; unfold jbV; rw [if_pos rfl, if_pos rfl, zgd_pos (by omega), toNat_n, y1']
  · subst q; unfold jbV; rw [if_neg (by decide), if_pos rfl, if_neg (by decide), if_pos rfl, zgd_pos (by omega), toNat_n, y2']
  · subst q; unfold jbV; rw [if_neg (by decide), if_neg (by decide), if_pos rfl, if_neg (by decide), if_neg (by decide), if_pos rfl, zgd_pos (by omega), toNat_n, y3']
  · subst q; unfold jbV; rw [if_neg (by decide), if_neg (by decide), if_neg (by decide), if_pos rfl, if_neg (by decide), if_neg (by decide), if_neg (by decide), if_pos rfl, s157 h.cs hG hj, zbI_some]
  · subst q
    rw [if_neg (by decide), if_neg (by decide), if_neg (by decide), if_neg (by decide), if_pos rfl, f3', jbV_4]
    rcases g3 with w | w
    · rw [if_pos w, if_pos w]
    · rw [if_neg (show ¬ S 3 = 0 by omega), if_neg (show ¬ S 3 = 0 by omega), zgd_pos (by omega), toNat_n, y3']
      by_cases c : rO S j = 0
      · rw [if_pos (by omega), if_pos c]
      · have hp := h.2.2.2.2 w
        rw [if_neg (by omega), if_neg c, s159 h.cs hG (p := 3) (k := 19) (by rfl) (fun j o hl => (hp j o hl).2) hj, zbI_some, if_neg c]
        rfl
  · subst q
    rw [if_neg (by decide), if_neg (by decide), if_neg (by decide), if_neg (by decide), if_neg (by decide), f3', jbV_5]
    rcases g3 with w | w
    · rw [if_pos w, if_pos w]
    · have hp := h.2.2.2.2 w
      rw [if_neg (show ¬ S 3 = 0 by omega), if_neg (show ¬ S 3 = 0 by omega), s160 h.cs hG (p := 3) (k := 19) (by rfl) (fun j o hl => (hp j o hl).2) hj, zbI_some]
/-- a value of an operation -/
noncomputable def opV (S : Row) (j o : Nat) (k : Int) : Int := if k = 0 then sM S (5 * j + o) else if k = 1 then sU S (5 * j + o) else if S 3 = 0 then -1 else if k = 2 then sL S (5 * j + o) else if k = 3 then sP S (5 * j + o) else @ite _ (Hits S (5 * j + o) (sP S (5 * j + o))) (Classical.propDecidable _) 1 0
theorem c_operation {σ : zSt} {S : Row} {B : Int} (h : ShC (shF σ 0) (shA σ 0) S) (hO : Ok S B) (hB : B ≤ 800000) {j o : Nat} (hl : Live S j o) {k : Int} (hk : 0 ≤ k ∧ k ≤ 4) : zE 12 0 [some (zR 0), some (zI j), some (zI o), some (zI k), none] [] σ = zRI (opV S j o k) σ := by
  have hG := hO.1
  have hj6 := hG.j6 hl.1
  have ho5 := hG.o5 hl
  have g1 := hG.1.2.1
  obtain ⟨y1, y2⟩ := h.2.2.1 (5 * j + o) (by omega)
  have y1' : σ 13 (5 * j + o) = sM S (5 * j + o) := y1
  have y2' : σ 14 (5 * j + o) = sU S (5 * j + o) := y2
  have y3' : σ 12 j = rO S j := (h.2.1 j hj6).2.2
  have f1' : σ 2 1 = S 1 := h.1.2.1
  have f3' : σ 2 11 = S 3 := h.1.2.2.2.1
  have g3 := hG.1.2.2.2
  have hl1 := hl.1
  have hl2 := hl.2
  rw [X12_0, s148 (by rw [f1']; omega), zbI_some, f1', toNat_n, y3', if_pos (c := (0 ≤ (j : Int) ∧ (j : Int) < S 1) ∧ 0 ≤ (o : Int) ∧ (o : Int) < rO S j) (by omega), if_neg i10, s33, zbI_some, if_pos hk, if_neg i10, s35 (by omega) (by omega), zbI_some]
  unfold opV
  rcases (show k = 0 ∨ k = 1 ∨ 2 ≤ k by omega) with q | q | q
  · subst q; rw [if_pos rfl, if_pos rfl, zgd_pos (by omega), toNat_n, y1']
  · subst q; rw [if_neg (by decide), if_pos rfl, if_neg (by decide), if_pos rfl, zgd_pos (by omega), toNat_n, y2']
  · rw [if_neg (show ¬ k = 0 by omega), if_neg (show ¬ k = 1 by omega), if_neg (show ¬ k = 0 by omega), if_neg (show ¬ k = 1 by omega), f3']
    rcases g3 with w | w
    · rw [if_pos w, if_pos w]
    · rw [if_neg (show ¬ S 3 = 0 by omega), if_neg (show ¬ S 3 = 0 by omega)]
      obtain ⟨p1, p2⟩ := h.2.2.2.2 w j o hl
      have p1' : σ 18 (5 * j + o) = sL S (5 * j + o) := p1
      have p2' : σ 19 (5 * j + o) = sP S (5 * j + o) := p2
      rcases (show k = 2 ∨ k = 3 ∨ k = 4 by omega) with q2 | q2 | q2
      · subst q2; rw [if_pos rfl, if_pos rfl, zgd_pos (by omega), toNat_n, p1']
      · subst q2; rw [if_neg (by decide), if_pos rfl, if_neg (by decide), if_pos rfl, zgd_pos (by omega), toNat_n, p2']
      · subst q2
        obtain ⟨v2, v3⟩ := hO.2 w
        have hp := v3.1 j o hl
        have e3 : S (23 + 3 + 4 * (5 * j + o)) = sP S (5 * j + o) := rfl
        rw [e3] at hp
        obtain ⟨q1, q2⟩ := s164 h.cs hG (i := 5 * j + o) (by omega) (hG.2.2.1 j o hl.1 hl.2).2 (t := sP S (5 * j + o)) (by omega)
        rw [if_neg (by decide), if_neg (by decide), if_neg (by decide), if_neg (by decide), zgd_pos (by omega), toNat_n, p2']
        by_cases q : Hits S (5 * j + o) (sP S (5 * j + o))
        · rw [q1 q, zbI_some, if_neg i10, if_pos q]
        · rw [q2 q, zbI_some, if_pos rfl, if_neg q]
/-- when the present plan leaves the old one for good -/
def mtS (S : Row) : Int := fA S (fun j o a => if sL S (5 * j + o) = sP S (5 * j + o) then a else max a (sL S (5 * j + o) + 1)) 0
theorem s167 {σ : zSt} {S : Row} {B : Int} (hC : CS σ S) (hG : Good S) (hV : Val S 2 B) (hB : B ≤ 800000) (hA : ∀ j o, Live S j o → σ 18 (5 * j + o) = sL S (5 * j + o) ∧ σ 19 (5 * j + o) = sP S (5 * j + o)) : zE 167 0 [some (zR 2), none, none, none, none] [] σ = zRI (mtS S) σ := by
  have key := zloop2 (α := Int) (D := Option zVal × Option zVal) (E := Option zVal) (nJ S) (nO S) (fun j o a => if sL S (5 * j + o) = sP S (5 * j + o) then a else max a (sL S (5 * j + o) + 1))
    (fun j a d => zE 167 4 [some (zR 2), some (zI a), some (zI (j : Int)), d.1, d.2] [] σ)
    (fun j o a d => zE 167 14 [some (zR 2), some (zI a), some (zI (j : Int)), some (zI (o : Int)), d] [] σ)
    (fun a => zRI a σ) (fun _ _ _ => True) ?_ ?_ ?_ ?_ 0 (none, none) trivial
  · rw [X167_0]
    exact key.1
  · intro j a d hj hi
    refine ⟨d.2, ?_⟩
    show zE 167 4 [some (zR 2), some (zI a), some (zI (j : Int)), d.1, d.2] [] σ = _
    rw [X167_4, if_pos (by rw [hC.1.2.1]; exact nJ_lt.mp hj)]
    rfl
  · intro j o a d hj ho hi
    have hl := liveN hj ho
    have hj6 := hG.j6 hl.1
    have ho5 := hG.o5 hl
    have hp := hV.1 j o hl
    have e3 : S (23 + 2 + 4 * (5 * j + o)) = sL S (5 * j + o) := rfl
    rw [e3] at hp
    refine ⟨⟨some (zI ((5 * j + o : Nat) : Int)), ?_⟩, trivial⟩
    show zE 167 14 [some (zR 2), some (zI a), some (zI (j : Int)), some (zI (o : Int)), d] [] σ = _
    rw [X167_14, zgd_pos (by omega), toNat_n, (hC.2.1 j hj6).2.2, if_pos hl.2, s35 (by omega) (by omega), zbI_some, zgd_pos (by omega), zgd_pos (by omega), toNat_n, (hA j o hl).1, (hA j o hl).2]
    by_cases q : sL S (5 * j + o) = sP S (5 * j + o)
    · rw [if_pos q, if_pos q, zw_nat1 (by omega)]
    · rw [if_neg q, if_neg q, zgd_pos (by omega), zw_nat1 (by omega), zw_id (x := sL S (5 * j + o) + 1) (by omega) (by omega)]
  · intro j a d hj hi
    have hj6 := hG.j6 (nJ_lt.mp hj)
    have h5 : nO S j ≤ 5 := by have := (hG.2.1 j (nJ_lt.mp hj)).2.2; unfold nO; omega
    refine ⟨⟨(some (zI ((nO S j : Nat) : Int)), d), ?_⟩, trivial⟩
    show zE 167 14 [some (zR 2), some (zI a), some (zI (j : Int)), some (zI ((nO S j : Nat) : Int)), d] [] σ = _
    rw [X167_14, zgd_pos (by omega), toNat_n, (hC.2.1 j hj6).2.2, if_neg (by unfold nO; omega), zw_nat1 (by omega)]
  · intro a d hi
    show zE 167 4 [some (zR 2), some (zI a), some (zI ((nJ S : Nat) : Int)), d.1, d.2] [] σ = _
    rw [X167_4, if_neg (by rw [hC.1.2.1]; have := hG.1.2.1; unfold nJ; omega)]
theorem c_meeting {σ : zSt} {S : Row} {B : Int} (h : ShC (shF σ 0) (shA σ 0) S) (hO : Ok S B) (hB : B ≤ 800000) : zE 15 0 [some (zR 0)] [] σ = zRI (if S 3 = 1 then mtS S else -1) σ := by
  have hG := hO.1
  have g3 := hG.1.2.2.2
  have f3' : σ 2 11 = S 3 := h.1.2.2.2.1
  rw [X15_0, f3']
  by_cases w : S 3 = 1
  · rw [if_neg (by omega), if_pos w, s167 h.cs hG (hO.2 w).1 hB (h.2.2.2.2 w), zbI_some]
  · rw [if_pos (by omega), if_neg w]
