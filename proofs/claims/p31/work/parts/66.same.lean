/-! ===== 66: same: all that the class shows, beside the law's own workshop (written by a program) ===== -/
theorem opV_0 {S : Row} {j o : Nat} : opV S j o 0 = sM S (5 * j + o) := by unfold opV; rw [if_pos rfl]
theorem opV_1 {S : Row} {j o : Nat} : opV S j o 1 = sU S (5 * j + o) := by unfold opV; rw [if_neg (by decide), if_pos rfl]
theorem opV_n {S : Row} {j o : Nat} (w : S 3 = 0) {k : Int} (hk : 2 ≤ k) : opV S j o k = -1 := by unfold opV; rw [if_neg (by omega), if_neg (by omega), if_pos w]
theorem opV_2 {S : Row} {j o : Nat} (w : S 3 = 1) : opV S j o 2 = sL S (5 * j + o) := by unfold opV; rw [if_neg (by decide), if_neg (by decide), if_neg (by omega), if_pos rfl]
theorem opV_3 {S : Row} {j o : Nat} (w : S 3 = 1) : opV S j o 3 = sP S (5 * j + o) := by unfold opV; rw [if_neg (by decide), if_neg (by decide), if_neg (by omega), if_neg (by decide), if_pos rfl]
theorem opV_4 {S : Row} {j o : Nat} (w : S 3 = 1) {v : Int} (hv : v = 0 ∨ v = 1) (hi : v = 1 ↔ Hits S (5 * j + o) (sP S (5 * j + o))) : opV S j o 4 = v := by
  unfold opV
  rw [if_neg (by decide), if_neg (by decide), if_neg (by omega), if_neg (by decide), if_neg (by decide)]
  by_cases c : Hits S (5 * j + o) (sP S (5 * j + o))
  · rw [if_pos c]; exact (hi.mpr c).symm
  · rw [if_neg c]
    rcases hv with q | q
    · exact q.symm
    · exact absurd (hi.mp q) c
theorem fHt_v {S : Row} {j o : Nat} {a v : Int} (hv : v = 0 ∨ v = 1) (hi : v = 1 ↔ Hits S (5 * j + o) (sP S (5 * j + o))) : fHt S j o a = a + v := by
  unfold fHt
  by_cases c : Hits S (5 * j + o) (sP S (5 * j + o))
  · rw [if_pos c, hi.mpr c]
  · rw [if_neg c]
    rcases hv with q | q
    · rw [q, Int.add_zero]
    · exact absurd (hi.mp q) c
/-- every live operation's machine is one of the workshop's -/
def Mch (S : Row) : Prop := ∀ j o, Live S j o → 0 ≤ sM S (5 * j + o) ∧ sM S (5 * j + o) < S 0
section LAWE
variable {σ : zSt} {S : Row} {B : Int}
/-- the fold of the ones ahead -/
def gAh (S : Row) (m t : Int) (k : Nat) (a : Int) : Int := if ((k % 4 : Nat) : Int) < rO S (k / 4) then fAh S m t (k / 4) (k % 4) a else a
theorem gAh_le {m t : Int} : ∀ n, 0 ≤ f1 (gAh S m t) n 0 ∧ f1 (gAh S m t) n 0 ≤ n := by
  intro n
  induction n with
  | zero => exact ⟨Int.le_refl _, Int.le_refl _⟩
  | succ n ih =>
    show 0 ≤ gAh S m t n (f1 (gAh S m t) n 0) ∧ gAh S m t n (f1 (gAh S m t) n 0) ≤ ((n + 1 : Nat) : Int)
    generalize f1 (gAh S m t) n 0 = a at ih ⊢
    unfold gAh fAh
    split
    · split <;> omega
    · omega
theorem t185_ah (hw : LW σ S) {j o : Nat} (hl : Live S j o) (l5 l6 l7 l8 l9 l10 l12 l13 l14 : Int) : ∀ (d k : Nat), k + d = 12 → zE 185 338 [some (zR 0), some (zR 9), some (zR 65), some (zR 66), some (zR 68), some (zI l5), some (zI l6), some (zI l7), some (zI l8), some (zI l9), some (zI l10), some (zI ((4 * j + o : Nat) : Int)), some (zI l12), some (zI l13), some (zI l14), some (zI (f1 (gAh S (sM S (5 * j + o)) (sP S (5 * j + o))) k 0)), some (zI (k : Int))] [] σ = zE 185 338 [some (zR 0), some (zR 9), some (zR 65), some (zR 66), some (zR 68), some (zI l5), some (zI l6), some (zI l7), some (zI l8), some (zI l9), some (zI l10), some (zI ((4 * j + o : Nat) : Int)), some (zI l12), some (zI l13), some (zI l14), some (zI (ahd S (sM S (5 * j + o)) (sP S (5 * j + o)))), some (zI 12)] [] σ := by
  obtain ⟨h3, h, hp, _⟩ := hw
  obtain ⟨hj, ho4⟩ := h3.j3 hl
  have w0 : zw (4 * ((4 * j + o : Nat) : Int)) = 4 * ((4 * j + o : Nat) : Int) := zw_id (by omega) (by omega)
  have w3 : zw (4 * ((4 * j + o : Nat) : Int) + 3) = 4 * ((4 * j + o : Nat) : Int) + 3 := zw_id (by omega) (by omega)
  have n0 : (4 * ((4 * j + o : Nat) : Int)).toNat = 16 * j + 4 * o := by omega
  have n3 : (4 * ((4 * j + o : Nat) : Int) + 3).toNat = 16 * j + 4 * o + 3 := by omega
  intro d
  induction d with
  | zero =>
    intro k hk
    have : k = 12 := by omega
    subst this
    have eah : f1 (gAh S (sM S (5 * j + o)) (sP S (5 * j + o))) 12 0 = ahd S (sM S (5 * j + o)) (sP S (5 * j + o)) := f12 h3 (fAh S (sM S (5 * j + o)) (sP S (5 * j + o))) 0
    rw [eah]
    rfl
  | succ d ih =>
    intro k hk
    obtain ⟨j', o', hk2, ho'⟩ : ∃ j' o' : Nat, k = 4 * j' + o' ∧ o' < 4 := ⟨k / 4, k % 4, by omega, by omega⟩
    have hj3 : j' < 3 := by omega
    have nx : zw ((k : Int) + 1) = ((k + 1 : Nat) : Int) := zw_nat1 (by omega)
    have e172 := t172 h hj3 ho'
    rw [← hk2] at e172
    have hb := gAh_le (S := S) (m := sM S (5 * j + o)) (t := sP S (5 * j + o)) k
    have i1 := ih (k + 1) (by omega)
    have ef : f1 (gAh S (sM S (5 * j + o)) (sP S (5 * j + o))) (k + 1) 0 = if (o' : Int) < rO S j' then fAh S (sM S (5 * j + o)) (sP S (5 * j + o)) j' o' (f1 (gAh S (sM S (5 * j + o)) (sP S (5 * j + o))) k 0) else f1 (gAh S (sM S (5 * j + o)) (sP S (5 * j + o))) k 0 := by
      show (if ((k % 4 : Nat) : Int) < rO S (k / 4) then fAh S (sM S (5 * j + o)) (sP S (5 * j + o)) (k / 4) (k % 4) _ else _) = _
      rw [show k % 4 = o' by omega, show k / 4 = j' by omega]
    rw [ef] at i1
    generalize f1 (gAh S (sM S (5 * j + o)) (sP S (5 * j + o))) k 0 = a at hb i1 ⊢
    rw [X185_338, if_pos (by omega), e172, zbI_some, nx]
    by_cases c1 : (o' : Int) < rO S j'
    · have hl' : Live S j' o' := h3.live hj3 c1
      have v0 : zw (4 * (k : Int)) = 4 * (k : Int) := zw_id (by omega) (by omega)
      have v3 : zw (4 * (k : Int) + 3) = 4 * (k : Int) + 3 := zw_id (by omega) (by omega)
      have m0 : (4 * (k : Int)).toNat = 16 * j' + 4 * o' := by omega
      have m3 : (4 * (k : Int) + 3).toNat = 16 * j' + 4 * o' + 3 := by omega
      rw [if_pos c1] at i1
      rw [if_pos c1, if_neg i10, v0, w0, m0, n0, v3, w3, m3, n3, zgd_pos (by omega), zgd_pos (by omega), (h.2.2.1 j' o' hl').1, (h.2.2.1 j o hl).1]
      unfold fAh at i1
      by_cases c2 : sM S (5 * j' + o') = sM S (5 * j + o)
      · rw [if_pos c2, zgd_pos (by omega), zgd_pos (by omega), hp j' o' hl', hp j o hl]
        by_cases c3 : sP S (5 * j' + o') < sP S (5 * j + o)
        · rw [if_pos ⟨c2, c3⟩] at i1
          rw [if_pos c3, zw_id (x := a + 1) (by omega) (by omega)]
          exact i1
        · rw [if_neg (fun q => c3 q.2)] at i1
          rw [if_neg c3, zw_id (x := a + 0) (by omega) (by omega), Int.add_zero]
          exact i1
      · rw [if_neg (fun q => c2 q.1)] at i1
        rw [if_neg c2, zw_id (x := a + 0) (by omega) (by omega), Int.add_zero]
        exact i1
    · rw [if_neg c1] at i1
      rw [if_neg c1, if_pos rfl, zw_id (x := a + 0) (by omega) (by omega), Int.add_zero]
      exact i1
/-- one operation, with a plan -/
theorem t185_e1 (hC : CR σ S B) (hw : LW σ S) (hmach : Mch S) (w : S 3 = 1) (hB : 0 ≤ B ∧ B ≤ 18000) {j o : Nat} (hl : Live S j o) {a5 a6 a7 a8 a9 : Int} (b5 : 0 ≤ a5 ∧ a5 ≤ 1000) (b8 : 0 ≤ a8 ∧ a8 ≤ 1000) (o12 o13 o14 o15 o16 : Option zVal) : ∃ p12 p13 p14 p15 p16, zE 185 32 [some (zR 0), some (zR 9), some (zR 65), some (zR 66), some (zR 68), some (zI a5), some (zI a6), some (zI a7), some (zI a8), some (zI a9), some (zI 1), some (zI ((4 * j + o : Nat) : Int)), o12, o13, o14, o15, o16] [] σ = zE 185 32 [some (zR 0), some (zR 9), some (zR 65), some (zR 66), some (zR 68), some (zI (fHt S j o a5)), some (zI (max a6 (sP S (5 * j + o) + sU S (5 * j + o)))), some (zI (if sL S (5 * j + o) = sP S (5 * j + o) then a7 else max a7 (sL S (5 * j + o) + 1))), some (zI (a8 + 1)), some (zI (zw (a9 + sU S (5 * j + o)))), some (zI 1), some (zI ((4 * j + o + 1 : Nat) : Int)), p12, p13, p14, p15, p16] [] σ := by
  obtain ⟨h3, h, hp, ho, _, _⟩ := id hw
  have hO := hC.ok
  have hG := hO.1
  obtain ⟨hj, ho4⟩ := h3.j3 hl
  obtain ⟨q1, q2⟩ := e4 (j := j) ho4
  have g5 := (hG.2.2.1 j o hl.1 hl.2)
  obtain ⟨s0, s1⟩ := h.2.2.1 j o hl
  have s2 := ho j o hl
  have s3 := hp j o hl
  have w0 : zw (4 * ((4 * j + o : Nat) : Int)) = 4 * ((4 * j + o : Nat) : Int) := zw_id (by omega) (by omega)
  have w1 : zw (4 * ((4 * j + o : Nat) : Int) + 1) = 4 * ((4 * j + o : Nat) : Int) + 1 := zw_id (by omega) (by omega)
  have w2 : zw (4 * ((4 * j + o : Nat) : Int) + 2) = 4 * ((4 * j + o : Nat) : Int) + 2 := zw_id (by omega) (by omega)
  have w3 : zw (4 * ((4 * j + o : Nat) : Int) + 3) = 4 * ((4 * j + o : Nat) : Int) + 3 := zw_id (by omega) (by omega)
  have n0 : (4 * ((4 * j + o : Nat) : Int)).toNat = 16 * j + 4 * o := by omega
  have n1 : (4 * ((4 * j + o : Nat) : Int) + 1).toNat = 16 * j + 4 * o + 1 := by omega
  have n2 : (4 * ((4 * j + o : Nat) : Int) + 2).toNat = 16 * j + 4 * o + 2 := by omega
  have n3 : (4 * ((4 * j + o : Nat) : Int) + 3).toNat = 16 * j + 4 * o + 3 := by omega
  have nx : zw (((4 * j + o : Nat) : Int) + 1) = ((4 * j + o + 1 : Nat) : Int) := zw_nat1 (by omega)
  have c0 := c_operation hC.sh hO (by omega) hl (k := 0) (by omega)
  have c1 := c_operation hC.sh hO (by omega) hl (k := 1) (by omega)
  have c2 := c_operation hC.sh hO (by omega) hl (k := 2) (by omega)
  have c3 := c_operation hC.sh hO (by omega) hl (k := 3) (by omega)
  have c4 := c_operation hC.sh hO (by omega) hl (k := 4) (by omega)
  rw [opV_0] at c0
  rw [opV_1] at c1
  rw [opV_2 w] at c2
  rw [opV_3 w] at c3
  obtain ⟨v2, v3⟩ := hO.2 w
  have hPB : PB S B := fun j o hl => by have := v3.pp j o hl; omega
  have hpp := v3.pp j o hl
  have hll := v2.1 j o hl
  have hll2 : S (23 + 2 + 4 * (5 * j + o)) = sL S (5 * j + o) := rfl
  rw [hll2] at hll
  have e173 := t173_3 h h3 hG hp hPB (by omega) hl
  -- behind the comparisons
  have tail : ∀ (v l6 l7 : Int), (v = 0 ∨ v = 1) → (v = 1 ↔ Hits S (5 * j + o) (sP S (5 * j + o))) → l6 = max a6 (sP S (5 * j + o) + sU S (5 * j + o)) → l7 = (if sL S (5 * j + o) = sP S (5 * j + o) then a7 else max a7 (sL S (5 * j + o) + 1)) → ∃ p12 p13 p14 p15 p16, zE 185 338 [some (zR 0), some (zR 9), some (zR 65), some (zR 66), some (zR 68), some (zI (a5 + v)), some (zI l6), some (zI l7), some (zI (a8 + 1)), some (zI (zw (a9 + sU S (5 * j + o)))), some (zI 1), some (zI ((4 * j + o : Nat) : Int)), some (zI v), some (zI (j : Int)), some (zI (o : Int)), some (zI 0), some (zI 0)] [] σ = zE 185 32 [some (zR 0), some (zR 9), some (zR 65), some (zR 66), some (zR 68), some (zI (fHt S j o a5)), some (zI (max a6 (sP S (5 * j + o) + sU S (5 * j + o)))), some (zI (if sL S (5 * j + o) = sP S (5 * j + o) then a7 else max a7 (sL S (5 * j + o) + 1))), some (zI (a8 + 1)), some (zI (zw (a9 + sU S (5 * j + o)))), some (zI 1), some (zI ((4 * j + o + 1 : Nat) : Int)), p12, p13, p14, p15, p16] [] σ := by
    intro v l6 l7 hv hi h6 h7
    have ea := t185_ah hw hl (a5 + v) l6 l7 (a8 + 1) (zw (a9 + sU S (5 * j + o))) 1 v (j : Int) (o : Int) 12 0 rfl
    have ea' : zE 185 338 [some (zR 0), some (zR 9), some (zR 65), some (zR 66), some (zR 68), some (zI (a5 + v)), some (zI l6), some (zI l7), some (zI (a8 + 1)), some (zI (zw (a9 + sU S (5 * j + o)))), some (zI 1), some (zI ((4 * j + o : Nat) : Int)), some (zI v), some (zI (j : Int)), some (zI (o : Int)), some (zI 0), some (zI 0)] [] σ = _ := ea
    have hah := gAh_le (S := S) (m := sM S (5 * j + o)) (t := sP S (5 * j + o)) 12
    have eah : f1 (gAh S (sM S (5 * j + o)) (sP S (5 * j + o))) 12 0 = ahd S (sM S (5 * j + o)) (sP S (5 * j + o)) := f12 h3 (fAh S (sM S (5 * j + o)) (sP S (5 * j + o))) 0
    rw [eah] at hah
    have g0 := h3.1.1
    have hm3 : 0 ≤ sM S (5 * j + o) ∧ sM S (5 * j + o) < S 0 := hmach j o hl
    obtain ⟨v', f1', f2⟩ := g_onMachine1 hC w (m := sM S (5 * j + o)) (i := ahd S (sM S (5 * j + o)) (sP S (5 * j + o))) hm3 hah.1
    have f3 : Cod S (sM S (5 * j + o)) (ahd S (sM S (5 * j + o)) (sP S (5 * j + o))) (10 * j + o) := Or.inl ⟨j, o, hl, ⟨rfl, rfl⟩, rfl⟩
    have f4 := f2.uniq hG v3 f3
    rw [ea', X185_338, if_neg (by decide), if_neg i10, w0, n0, zgd_pos (by omega), s0, f1', zbI_some, zw_id (x := 10 * (j : Int)) (by omega) (by omega), zw_id (x := 10 * (j : Int) + o) (by omega) (by omega), if_pos f4, nx, fHt_v hv hi, ← h6, ← h7]
    exact ⟨_, _, _, _, _, rfl⟩
  have main : ∀ v : Int, (v = 0 ∨ v = 1) → (v = 1 ↔ Hits S (5 * j + o) (sP S (5 * j + o))) → ∃ p12 p13 p14 p15 p16, zE 185 81 [some (zR 0), some (zR 9), some (zR 65), some (zR 66), some (zR 68), some (zI a5), some (zI a6), some (zI a7), some (zI a8), some (zI a9), some (zI 1), some (zI ((4 * j + o : Nat) : Int)), o12, o13, o14, o15, o16] [zI v] σ = zE 185 32 [some (zR 0), some (zR 9), some (zR 65), some (zR 66), some (zR 68), some (zI (fHt S j o a5)), some (zI (max a6 (sP S (5 * j + o) + sU S (5 * j + o)))), some (zI (if sL S (5 * j + o) = sP S (5 * j + o) then a7 else max a7 (sL S (5 * j + o) + 1))), some (zI (a8 + 1)), some (zI (zw (a9 + sU S (5 * j + o)))), some (zI 1), some (zI ((4 * j + o + 1 : Nat) : Int)), p12, p13, p14, p15, p16] [] σ := by
    intro v hv hi
    have c4' := c4
    rw [opV_4 w hv hi] at c4'
    have ev : (if v = 0 then 0 else 1 : Int) = v := by rcases hv with q | q <;> rw [q] <;> rfl
    have fin : ∀ l6 : Int, l6 = max a6 (sP S (5 * j + o) + sU S (5 * j + o)) → ∃ p12 p13 p14 p15 p16, zE 185 279 [some (zR 0), some (zR 9), some (zR 65), some (zR 66), some (zR 68), some (zI (a5 + v)), some (zI a6), some (zI a7), some (zI (a8 + 1)), some (zI (zw (a9 + sU S (5 * j + o)))), some (zI 1), some (zI ((4 * j + o : Nat) : Int)), some (zI v), some (zI (j : Int)), some (zI (o : Int)), o15, o16] [zI l6] σ = zE 185 32 [some (zR 0), some (zR 9), some (zR 65), some (zR 66), some (zR 68), some (zI (fHt S j o a5)), some (zI (max a6 (sP S (5 * j + o) + sU S (5 * j + o)))), some (zI (if sL S (5 * j + o) = sP S (5 * j + o) then a7 else max a7 (sL S (5 * j + o) + 1))), some (zI (a8 + 1)), some (zI (zw (a9 + sU S (5 * j + o)))), some (zI 1), some (zI ((4 * j + o + 1 : Nat) : Int)), p12, p13, p14, p15, p16] [] σ := by
      intro l6 h6
      rw [X185_279, w0, w2, w3, n2, n3, zgd_pos (by omega), zgd_pos (by omega), s2, s3]
      by_cases d1 : sL S (5 * j + o) = sP S (5 * j + o)
      · rw [if_pos d1]
        exact tail v l6 a7 hv hi h6 (by rw [if_pos d1])
      · rw [if_neg d1, zgd_pos (by omega), zw_id (x := sL S (5 * j + o) + 1) (by omega) (by omega)]
        by_cases d2 : sL S (5 * j + o) + 1 ≤ a7
        · rw [if_pos d2]
          exact tail v l6 a7 hv hi h6 (by rw [if_neg d1]; omega)
        · rw [if_neg d2, zgd_pos (by omega)]
          exact tail v l6 (sL S (5 * j + o) + 1) hv hi h6 (by rw [if_neg d1]; omega)
    rw [X185_81, zgd_pos (by omega), zgd_pos (by omega), q1, q2, c0, zbI_some, w0, n0, zgd_pos (by omega), s0, if_pos rfl, c1, zbI_some, w1, n1, zgd_pos (by omega), s1, if_pos rfl, c2, zbI_some, if_neg i10, w2, n2, zgd_pos (by omega), s2, X185_159, if_pos rfl, c3, zbI_some, if_neg i10, w0, w3, n3, zgd_pos (by omega), s3, X185_188, if_pos rfl, c4', zbI_some, if_neg i10, ev, X185_219, if_pos rfl, ev, X185_239, w0, w1, n1, zgd_pos (by omega), s1, e173, zbI_some, zw_id (x := a5 + v) (by omega) (by omega), zw_id (x := a8 + 1) (by omega) (by omega)]
    by_cases d : sP S (5 * j + o) + sU S (5 * j + o) ≤ a6
    · rw [if_pos d]
      exact fin a6 (by omega)
    · rw [if_neg d, e173, zbI_some]
      exact fin _ (by omega)
  have e172 := t172 h hj ho4
  obtain ⟨k1, k2⟩ := t174 h h3 hG hl (t := sP S (5 * j + o)) (by omega)
  rw [X185_32, if_pos (by omega), e172, zbI_some, if_pos hl.2, if_neg i10, if_neg i10, w0, w3, n3, zgd_pos (by omega), s3]
  by_cases c : Hits S (5 * j + o) (sP S (5 * j + o))
  · rw [k1 c, zbI_some, if_neg i10]
    exact main 1 (Or.inr rfl) ⟨fun _ => c, fun _ => rfl⟩
  · rw [k2 c, zbI_some, if_pos rfl]
    exact main 0 (Or.inl rfl) ⟨fun q => absurd q (by decide), fun q => absurd q c⟩
/-- one operation, without a plan -/
theorem t185_e0 (hC : CR σ S B) (hw : LW σ S) (w : S 3 = 0) (hB : 0 ≤ B ∧ B ≤ 18000) {j o : Nat} (hl : Live S j o) {a5 a6 a7 a8 a9 : Int} (b8 : 0 ≤ a8 ∧ a8 ≤ 1000) (o12 o13 o14 o15 o16 : Option zVal) : ∃ (p5 p6 p7 p9 : Int) (p12 p13 p14 p15 p16 : Option zVal), zE 185 32 [some (zR 0), some (zR 9), some (zR 65), some (zR 66), some (zR 68), some (zI a5), some (zI a6), some (zI a7), some (zI a8), some (zI a9), some (zI 0), some (zI ((4 * j + o : Nat) : Int)), o12, o13, o14, o15, o16] [] σ = zE 185 32 [some (zR 0), some (zR 9), some (zR 65), some (zR 66), some (zR 68), some (zI p5), some (zI p6), some (zI p7), some (zI (a8 + 1)), some (zI p9), some (zI 0), some (zI ((4 * j + o + 1 : Nat) : Int)), p12, p13, p14, p15, p16] [] σ := by
  obtain ⟨h3, h, hp, ho, _, _⟩ := id hw
  have hO := hC.ok
  have hG := hO.1
  obtain ⟨hj, ho4⟩ := h3.j3 hl
  obtain ⟨q1, q2⟩ := e4 (j := j) ho4
  have g5 := (hG.2.2.1 j o hl.1 hl.2)
  obtain ⟨s0, s1⟩ := h.2.2.1 j o hl
  have s2 := ho j o hl
  have s3 := hp j o hl
  have w0 : zw (4 * ((4 * j + o : Nat) : Int)) = 4 * ((4 * j + o : Nat) : Int) := zw_id (by omega) (by omega)
  have w1 : zw (4 * ((4 * j + o : Nat) : Int) + 1) = 4 * ((4 * j + o : Nat) : Int) + 1 := zw_id (by omega) (by omega)
  have w2 : zw (4 * ((4 * j + o : Nat) : Int) + 2) = 4 * ((4 * j + o : Nat) : Int) + 2 := zw_id (by omega) (by omega)
  have w3 : zw (4 * ((4 * j + o : Nat) : Int) + 3) = 4 * ((4 * j + o : Nat) : Int) + 3 := zw_id (by omega) (by omega)
  have n0 : (4 * ((4 * j + o : Nat) : Int)).toNat = 16 * j + 4 * o := by omega
  have n1 : (4 * ((4 * j + o : Nat) : Int) + 1).toNat = 16 * j + 4 * o + 1 := by omega
  have n2 : (4 * ((4 * j + o : Nat) : Int) + 2).toNat = 16 * j + 4 * o + 2 := by omega
  have n3 : (4 * ((4 * j + o : Nat) : Int) + 3).toNat = 16 * j + 4 * o + 3 := by omega
  have nx : zw (((4 * j + o : Nat) : Int) + 1) = ((4 * j + o + 1 : Nat) : Int) := zw_nat1 (by omega)
  have c0 := c_operation hC.sh hO (by omega) hl (k := 0) (by omega)
  have c1 := c_operation hC.sh hO (by omega) hl (k := 1) (by omega)
  have c2 := c_operation hC.sh hO (by omega) hl (k := 2) (by omega)
  have c3 := c_operation hC.sh hO (by omega) hl (k := 3) (by omega)
  have c4 := c_operation hC.sh hO (by omega) hl (k := 4) (by omega)
  rw [opV_0] at c0
  rw [opV_1] at c1
  rw [opV_n w (by decide)] at c2 c3 c4
  have e173 := t173 (σ := σ) hj ho4 (q := 3) (by omega)
  have e173' : zE 173 0 [some (zI ((4 * j + o : Nat) : Int)), some (zI 3), some (zR 66)] [] σ = _ := e173
  have tail : ∀ (l5 l6 l7 l9 l12 : Int), ∃ (p5 p6 p7 p9 : Int) (p12 p13 p14 p15 p16 : Option zVal), zE 185 338 [some (zR 0), some (zR 9), some (zR 65), some (zR 66), some (zR 68), some (zI l5), some (zI l6), some (zI l7), some (zI (a8 + 1)), some (zI l9), some (zI 0), some (zI ((4 * j + o : Nat) : Int)), some (zI l12), some (zI (j : Int)), some (zI (o : Int)), some (zI 0), some (zI 0)] [] σ = zE 185 32 [some (zR 0), some (zR 9), some (zR 65), some (zR 66), some (zR 68), some (zI p5), some (zI p6), some (zI p7), some (zI (a8 + 1)), some (zI p9), some (zI 0), some (zI ((4 * j + o + 1 : Nat) : Int)), p12, p13, p14, p15, p16] [] σ := by
    intro l5 l6 l7 l9 l12
    have ea := t185_ah hw hl l5 l6 l7 (a8 + 1) l9 0 l12 (j : Int) (o : Int) 12 0 rfl
    have ea' : zE 185 338 [some (zR 0), some (zR 9), some (zR 65), some (zR 66), some (zR 68), some (zI l5), some (zI l6), some (zI l7), some (zI (a8 + 1)), some (zI l9), some (zI 0), some (zI ((4 * j + o : Nat) : Int)), some (zI l12), some (zI (j : Int)), some (zI (o : Int)), some (zI 0), some (zI 0)] [] σ = _ := ea
    rw [ea', X185_338, if_neg (by decide), if_pos rfl, nx]
    exact ⟨_, _, _, _, _, _, _, _, _, rfl⟩
  have fin : ∀ (l5 l6 l9 : Int) (l12 : Int) (o15 o16 : Option zVal), ∃ (p5 p6 p7 p9 : Int) (p12 p13 p14 p15 p16 : Option zVal), zE 185 279 [some (zR 0), some (zR 9), some (zR 65), some (zR 66), some (zR 68), some (zI l5), some (zI a6), some (zI a7), some (zI (a8 + 1)), some (zI l9), some (zI 0), some (zI ((4 * j + o : Nat) : Int)), some (zI l12), some (zI (j : Int)), some (zI (o : Int)), o15, o16] [zI l6] σ = zE 185 32 [some (zR 0), some (zR 9), some (zR 65), some (zR 66), some (zR 68), some (zI p5), some (zI p6), some (zI p7), some (zI (a8 + 1)), some (zI p9), some (zI 0), some (zI ((4 * j + o + 1 : Nat) : Int)), p12, p13, p14, p15, p16] [] σ := by
    intro l5 l6 l9 l12 o15 o16
    rw [X185_279, w0, w2, w3, n2, n3, zgd_pos (by omega), zgd_pos (by omega), s2, s3]
    by_cases d1 : sL S (5 * j + o) = sP S (5 * j + o)
    · rw [if_pos d1]
      exact tail _ _ _ _ _
    · rw [if_neg d1, zgd_pos (by omega)]
      by_cases d2 : zw (sL S (5 * j + o) + 1) ≤ a7
      · rw [if_pos d2]
        exact tail _ _ _ _ _
      · rw [if_neg d2, zgd_pos (by omega)]
        exact tail _ _ _ _ _
  rw [X185_32, if_pos (by omega), t172 h hj ho4, zbI_some, if_pos hl.2, if_neg i10, if_pos rfl, X185_80, X185_81, zgd_pos (by omega), zgd_pos (by omega), q1, q2, c0, zbI_some, w0, n0, zgd_pos (by omega), s0, if_pos rfl, c1, zbI_some, w1, n1, zgd_pos (by omega), s1, if_pos rfl, c2, zbI_some, if_pos rfl, X185_159, if_pos rfl, c3, zbI_some, if_pos rfl, X185_188, if_pos rfl, c4, zbI_some, if_pos rfl, X185_219, if_pos rfl, X185_239, w0, w1, n1, zgd_pos (by omega), s1, e173', zbI_some, zw_id (x := a8 + 1) (by omega) (by omega)]
  split
  · exact fin _ _ _ _ _ _
  · rw [e173', zbI_some]
    exact fin _ _ _ _ _ _
end LAWE
