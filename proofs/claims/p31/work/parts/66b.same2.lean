/-! ===== 66b: same, whole (written by a program) ===== -/
theorem fO_cnt {j : Nat} : ∀ (n : Nat) (a : Int), fO (fun _ _ (a : Int) => a + 1) j n a = a + n
  | 0, a => by show a = a + ((0 : Nat) : Int); omega
  | n + 1, a => by
    show fO (fun _ _ (a : Int) => a + 1) j n a + 1 = a + ((n + 1 : Nat) : Int)
    rw [fO_cnt n a]; omega
theorem cnt_opn {S : Row} (hG : Good S) : fA S (fun _ _ (a : Int) => a + 1) 0 = opn S := by
  have key : ∀ n, n ≤ nJ S → fJ (nO S) (fun _ _ (a : Int) => a + 1) n 0 = f1 (fun j a => zw (a + rO S j)) n 0 := by
    intro n
    induction n with
    | zero => intro _; rfl
    | succ n ih =>
      intro hn
      obtain ⟨i1, i2, _⟩ := opn_ok hG n (by omega)
      have hj : (n : Int) < S 1 := nJ_lt.mp (by omega)
      have hj6 := hG.j6 hj
      have g := (hG.2.1 n hj).2.2
      show fO (fun _ _ (a : Int) => a + 1) n (nO S n) (fJ (nO S) (fun _ _ (a : Int) => a + 1) n 0) = zw (f1 (fun j a => zw (a + rO S j)) n 0 + rO S n)
      rw [fO_cnt, ih (by omega), zw_id (by omega) (by omega)]
      unfold nO; omega
  exact key (nJ S) (Nat.le_refl _)
def fWk (S : Row) (j o : Nat) (a : Int) : Int := zw (a + sU S (5 * j + o))
theorem fO_wk {S : Row} (hG : Good S) {j : Nat} (hj : (j : Int) < S 1) : ∀ n, n ≤ nO S j → ∀ a : Int, 0 ≤ a → a ≤ 10000 → fO (fWk S) j n a = a + f1 (fun o a => zw (a + sU S (5 * j + o))) n 0 ∧ 0 ≤ f1 (fun o a => zw (a + sU S (5 * j + o))) n 0 ∧ f1 (fun o a => zw (a + sU S (5 * j + o))) n 0 ≤ 20 * n := by
  intro n
  induction n with
  | zero => intro _ a _ _; exact ⟨by show a = a + 0; omega, Int.le_refl _, Int.le_refl _⟩
  | succ n ih =>
    intro hn a h1 h2
    obtain ⟨i1, i2, i3⟩ := ih (by omega) a h1 h2
    have g5 := (hG.2.1 j hj).2.2
    have hn5 : nO S j ≤ 5 := by unfold nO; omega
    have g := (hG.2.2.1 j n hj (nO_lt.mp (by omega))).2
    show zw (fO (fWk S) j n a + sU S (5 * j + n)) = a + zw (f1 (fun o a => zw (a + sU S (5 * j + o))) n 0 + sU S (5 * j + n)) ∧ 0 ≤ zw (f1 (fun o a => zw (a + sU S (5 * j + o))) n 0 + sU S (5 * j + n)) ∧ zw (f1 (fun o a => zw (a + sU S (5 * j + o))) n 0 + sU S (5 * j + n)) ≤ 20 * ((n + 1 : Nat) : Int)
    rw [i1, zw_id (x := f1 (fun o a => zw (a + sU S (5 * j + o))) n 0 + sU S (5 * j + n)) (by omega) (by omega), zw_id (by omega) (by omega)]
    omega
theorem wk_aw {S : Row} (hG : Good S) : fA S (fWk S) 0 = aw S := by
  have key : ∀ n, n ≤ nJ S → fJ (nO S) (fWk S) n 0 = f1 (fun j a => zw (a + wkS S j)) n 0 ∧ 0 ≤ f1 (fun j a => zw (a + wkS S j)) n 0 ∧ f1 (fun j a => zw (a + wkS S j)) n 0 ≤ 100 * n := by
    intro n
    induction n with
    | zero => intro _; exact ⟨rfl, Int.le_refl _, Int.le_refl _⟩
    | succ n ih =>
      intro hn
      obtain ⟨i1, i2, i3⟩ := ih (by omega)
      have hj : (n : Int) < S 1 := nJ_lt.mp (by omega)
      have hj6 := hG.j6 hj
      have g5 := (hG.2.1 n hj).2.2
      have hn5 : nO S n ≤ 5 := by unfold nO; omega
      obtain ⟨k1, k2, k3⟩ := fO_wk hG hj (nO S n) (Nat.le_refl _) (f1 (fun j a => zw (a + wkS S j)) n 0) i2 (by omega)
      have ew : f1 (fun o a => zw (a + sU S (5 * n + o))) (nO S n) 0 = wkS S n := rfl
      rw [ew] at k1 k2 k3
      show fO (fWk S) n (nO S n) (fJ (nO S) (fWk S) n 0) = zw (f1 (fun j a => zw (a + wkS S j)) n 0 + wkS S n) ∧ 0 ≤ zw (f1 (fun j a => zw (a + wkS S j)) n 0 + wkS S n) ∧ zw (f1 (fun j a => zw (a + wkS S j)) n 0 + wkS S n) ≤ 100 * ((n + 1 : Nat) : Int)
      rw [i1, k1, zw_id (by omega) (by omega)]
      omega
  exact (key (nJ S) (Nat.le_refl _)).1
/-- the fold of the end of all -/
def fEn (S : Row) (j o : Nat) (a : Int) : Int := max a (sP S (5 * j + o) + sU S (5 * j + o))
theorem en_mx {S : Row} : Mx 0 (Pend S (nJ S)) (fA S (fEn S) 0) := by
  have h := fJ_max (no := nO S) (n := nJ S) (b := 0) (f := fEn S) (Q := fun _ _ => True) (e := fun j o => sP S (5 * j + o) + sU S (5 * j + o)) (fun j o a _ _ => ⟨fun _ => rfl, fun q => absurd trivial q⟩)
  exact h.congr (fun t => ⟨fun ⟨j, o, h1, h2, _, h3⟩ => ⟨j, o, h1, h2, h3⟩, fun ⟨j, o, h1, h2, h3⟩ => ⟨j, o, h1, h2, trivial, h3⟩⟩)
def fMe (S : Row) (j o : Nat) (a : Int) : Int := if sL S (5 * j + o) = sP S (5 * j + o) then a else max a (sL S (5 * j + o) + 1)
def fCt (_ _ : Nat) (a : Int) : Int := a + 1
/-- twelve places -/
def gL (S : Row) (f : Nat → Nat → Int → Int) (k : Nat) (a : Int) : Int := if ((k % 4 : Nat) : Int) < rO S (k / 4) then f (k / 4) (k % 4) a else a
theorem gL_s {S : Row} {f : Nat → Nat → Int → Int} {k j o : Nat} (hk : k = 4 * j + o) (ho : o < 4) : f1 (gL S f) (k + 1) 0 = if (o : Int) < rO S j then f j o (f1 (gL S f) k 0) else f1 (gL S f) k 0 := by
  show (if ((k % 4 : Nat) : Int) < rO S (k / 4) then f (k / 4) (k % 4) _ else _) = _
  rw [show k % 4 = o by omega, show k / 4 = j by omega]
theorem gL_12 {S : Row} (h3 : L3 S) (f : Nat → Nat → Int → Int) : f1 (gL S f) 12 0 = fA S f 0 := f12 h3 f 0
theorem gL_le {S : Row} {f : Nat → Nat → Int → Int} (hf : ∀ j o a, a ≤ f j o a ∧ f j o a ≤ a + 1) : ∀ n, 0 ≤ f1 (gL S f) n 0 ∧ f1 (gL S f) n 0 ≤ n := by
  intro n
  induction n with
  | zero => exact ⟨Int.le_refl _, Int.le_refl _⟩
  | succ n ih =>
    show 0 ≤ gL S f n (f1 (gL S f) n 0) ∧ gL S f n (f1 (gL S f) n 0) ≤ ((n + 1 : Nat) : Int)
    generalize f1 (gL S f) n 0 = a at ih ⊢
    unfold gL
    split
    · have := hf (n / 4) (n % 4) a
      omega
    · omega
theorem fHt_1 {S : Row} (j o : Nat) (a : Int) : a ≤ fHt S j o a ∧ fHt S j o a ≤ a + 1 := by
  unfold fHt
  split <;> omega
section LAWF
variable {σ : zSt} {S : Row} {B : Int}
/-- the walk over the operations, with a plan -/
theorem t185_a1 (hC : CR σ S B) (hw : LW σ S) (hmach : Mch S) (w : S 3 = 1) (hB : 0 ≤ B ∧ B ≤ 18000) : ∀ (d k : Nat), k + d = 12 → ∀ o12 o13 o14 o15 o16 : Option zVal, ∃ p12 p13 p14 p15 p16 : Option zVal, zE 185 32 [some (zR 0), some (zR 9), some (zR 65), some (zR 66), some (zR 68), some (zI (f1 (gL S (fHt S)) k 0)), some (zI (f1 (gL S (fEn S)) k 0)), some (zI (f1 (gL S (fMe S)) k 0)), some (zI (f1 (gL S (fCt)) k 0)), some (zI (f1 (gL S (fWk S)) k 0)), some (zI 1), some (zI (k : Int)), o12, o13, o14, o15, o16] [] σ = zE 185 32 [some (zR 0), some (zR 9), some (zR 65), some (zR 66), some (zR 68), some (zI (f1 (gL S (fHt S)) 12 0)), some (zI (f1 (gL S (fEn S)) 12 0)), some (zI (f1 (gL S (fMe S)) 12 0)), some (zI (f1 (gL S (fCt)) 12 0)), some (zI (f1 (gL S (fWk S)) 12 0)), some (zI 1), some (zI 12), p12, p13, p14, p15, p16] [] σ := by
  intro d
  induction d with
  | zero =>
    intro k hk o12 o13 o14 o15 o16
    have : k = 12 := by omega
    subst this
    exact ⟨o12, o13, o14, o15, o16, rfl⟩
  | succ d ih =>
    intro k hk o12 o13 o14 o15 o16
    obtain ⟨j, o, hk2, ho⟩ : ∃ j o : Nat, k = 4 * j + o ∧ o < 4 := ⟨k / 4, k % 4, by omega, by omega⟩
    have hj3 : j < 3 := by omega
    have nx : zw ((k : Int) + 1) = ((k + 1 : Nat) : Int) := zw_nat1 (by omega)
    have i1 := ih (k + 1) (by omega)
    rw [gL_s hk2 ho, gL_s hk2 ho, gL_s hk2 ho, gL_s hk2 ho, gL_s hk2 ho] at i1
    have b5 := gL_le (S := S) (f := fHt S) fHt_1 k
    have b8 := gL_le (S := S) (f := fCt) (fun _ _ a => ⟨by unfold fCt; omega, by unfold fCt; omega⟩) k
    by_cases c : (o : Int) < rO S j
    · have hl : Live S j o := hw.1.live hj3 c
      rw [if_pos c, if_pos c, if_pos c, if_pos c, if_pos c] at i1
      obtain ⟨p12, p13, p14, p15, p16, e1⟩ := t185_e1 hC hw hmach w hB hl (a5 := (f1 (gL S (fHt S)) k 0)) (a6 := (f1 (gL S (fEn S)) k 0)) (a7 := (f1 (gL S (fMe S)) k 0)) (a8 := (f1 (gL S (fCt)) k 0)) (a9 := (f1 (gL S (fWk S)) k 0)) (by omega) (by omega) o12 o13 o14 o15 o16
      obtain ⟨q12, q13, q14, q15, q16, e2⟩ := i1 p12 p13 p14 p15 p16
      rw [← hk2] at e1
      exact ⟨q12, q13, q14, q15, q16, e1.trans e2⟩
    · rw [if_neg c, if_neg c, if_neg c, if_neg c, if_neg c] at i1
      obtain ⟨q12, q13, q14, q15, q16, e2⟩ := i1 o12 o13 o14 o15 o16
      have e172 := t172 hw.2.1 hj3 ho
      rw [← hk2, if_neg c] at e172
      refine ⟨q12, q13, q14, q15, q16, Eq.trans ?_ e2⟩
      rw [X185_32, if_pos (by omega), e172, zbI_some, if_pos rfl, nx]
/-- the walk over the operations, without a plan -/
theorem t185_a0 (hC : CR σ S B) (hw : LW σ S) (w : S 3 = 0) (hB : 0 ≤ B ∧ B ≤ 18000) : ∀ (d k : Nat), k + d = 12 → ∀ (a5 a6 a7 a9 : Int) (o12 o13 o14 o15 o16 : Option zVal), ∃ (p5 p6 p7 p9 : Int) (p12 p13 p14 p15 p16 : Option zVal), zE 185 32 [some (zR 0), some (zR 9), some (zR 65), some (zR 66), some (zR 68), some (zI a5), some (zI a6), some (zI a7), some (zI (f1 (gL S (fCt)) k 0)), some (zI a9), some (zI 0), some (zI (k : Int)), o12, o13, o14, o15, o16] [] σ = zE 185 32 [some (zR 0), some (zR 9), some (zR 65), some (zR 66), some (zR 68), some (zI p5), some (zI p6), some (zI p7), some (zI (f1 (gL S (fCt)) 12 0)), some (zI p9), some (zI 0), some (zI 12), p12, p13, p14, p15, p16] [] σ := by
  intro d
  induction d with
  | zero =>
    intro k hk a5 a6 a7 a9 o12 o13 o14 o15 o16
    have : k = 12 := by omega
    subst this
    exact ⟨a5, a6, a7, a9, o12, o13, o14, o15, o16, rfl⟩
  | succ d ih =>
    intro k hk a5 a6 a7 a9 o12 o13 o14 o15 o16
    obtain ⟨j, o, hk2, ho⟩ : ∃ j o : Nat, k = 4 * j + o ∧ o < 4 := ⟨k / 4, k % 4, by omega, by omega⟩
    have hj3 : j < 3 := by omega
    have nx : zw ((k : Int) + 1) = ((k + 1 : Nat) : Int) := zw_nat1 (by omega)
    have i1 := ih (k + 1) (by omega)
    rw [gL_s hk2 ho] at i1
    have b8 := gL_le (S := S) (f := fCt) (fun _ _ a => ⟨by unfold fCt; omega, by unfold fCt; omega⟩) k
    by_cases c : (o : Int) < rO S j
    · have hl : Live S j o := hw.1.live hj3 c
      rw [if_pos c] at i1
      obtain ⟨p5, p6, p7, p9, p12, p13, p14, p15, p16, e1⟩ := t185_e0 hC hw w hB hl (a5 := a5) (a6 := a6) (a7 := a7) (a8 := (f1 (gL S (fCt)) k 0)) (a9 := a9) (by omega) o12 o13 o14 o15 o16
      obtain ⟨q5, q6, q7, q9, q12, q13, q14, q15, q16, e2⟩ := i1 p5 p6 p7 p9 p12 p13 p14 p15 p16
      rw [← hk2] at e1
      exact ⟨q5, q6, q7, q9, q12, q13, q14, q15, q16, e1.trans e2⟩
    · rw [if_neg c] at i1
      obtain ⟨q5, q6, q7, q9, q12, q13, q14, q15, q16, e2⟩ := i1 a5 a6 a7 a9 o12 o13 o14 o15 o16
      have e172 := t172 hw.2.1 hj3 ho
      rw [← hk2, if_neg c] at e172
      refine ⟨q5, q6, q7, q9, q12, q13, q14, q15, q16, Eq.trans ?_ e2⟩
      rw [X185_32, if_pos (by omega), e172, zbI_some, if_pos rfl, nx]
/-- the walk over the jobs -/
theorem t185_j (hC : CR σ S B) (hw : LW σ S) (hB : 0 ≤ B ∧ B ≤ 18000) (l5 l6 l7 l8 l9 l10 : Int) (hl10 : l10 = S 3) (o14 o15 o16 : Option zVal) : ∀ (d k : Nat), k + d = 3 → ∀ o12 o13 : Option zVal, ∃ p12 p13 : Option zVal, zE 185 443 [some (zR 0), some (zR 9), some (zR 65), some (zR 66), some (zR 68), some (zI l5), some (zI l6), some (zI l7), some (zI l8), some (zI l9), some (zI l10), some (zI (k : Int)), o12, o13, o14, o15, o16] [] σ = zE 185 443 [some (zR 0), some (zR 9), some (zR 65), some (zR 66), some (zR 68), some (zI l5), some (zI l6), some (zI l7), some (zI l8), some (zI l9), some (zI l10), some (zI 3), p12, p13, o14, o15, o16] [] σ := by
  have hO := hC.ok
  have hG := hO.1
  have g3 := hG.1.2.2.2
  obtain ⟨h3, h, hp, ho, _, _⟩ := id hw
  intro d
  induction d with
  | zero =>
    intro k hk o12 o13
    have : k = 3 := by omega
    subst this
    exact ⟨o12, o13, rfl⟩
  | succ d ih =>
    intro k hk o12 o13
    have hj : (k : Int) < S 1 := by rw [h3.1.2]; omega
    have r4 := h3.2.2 k (by omega)
    have r0 := (hG.2.1 k hj)
    have nx : zw ((k : Int) + 1) = ((k + 1 : Nat) : Int) := zw_nat1 (by omega)
    have w1 : zw (3 * (k : Int)) = 3 * (k : Int) := zw_id (by omega) (by omega)
    have w2 : zw (3 * (k : Int) + 1) = 3 * (k : Int) + 1 := zw_id (by omega) (by omega)
    have w3 : zw (3 * (k : Int) + 2) = 3 * (k : Int) + 2 := zw_id (by omega) (by omega)
    have n2 : (3 * (k : Int) + 1).toNat = 3 * k + 1 := by omega
    have n3 : (3 * (k : Int) + 2).toNat = 3 * k + 2 := by omega
    obtain ⟨_, s2, s3⟩ := h.2.1 k (by omega)
    have c1 := c_job hC.sh hG hj (k := 1) (by omega)
    have c2 := c_job hC.sh hG hj (k := 2) (by omega)
    have c4 := c_job hC.sh hG hj (k := 4) (by omega)
    have c5 := c_job hC.sh hG hj (k := 5) (by omega)
    have v1 : jbV S k 1 = rD S k := rfl
    have v2 : jbV S k 2 = rO S k := rfl
    rw [v1] at c1
    rw [v2] at c2
    rw [jbV_4] at c4
    rw [jbV_5] at c5
    obtain ⟨q12, q13, e2⟩ := ih (k + 1) (by omega) (some (zI (rO S k))) (some (zI (if S 3 = 0 then -1 else (if rO S k = 0 then -1 else zw (sP S (5 * k + (nO S k - 1)) + sU S (5 * k + (nO S k - 1)))))))
    refine ⟨q12, q13, Eq.trans ?_ e2⟩
    rw [X185_443, if_pos (by omega), w1, w3, n3, zgd_pos (by omega), s3]
    by_cases w : S 3 = 0
    · have hz : l10 = 0 := by omega
      rw [if_pos w] at c4 c5 ⊢
      have tl : zE 185 487 [some (zR 0), some (zR 9), some (zR 65), some (zR 66), some (zR 68), some (zI l5), some (zI l6), some (zI l7), some (zI l8), some (zI l9), some (zI l10), some (zI (k : Int)), some (zI (rO S k)), o13, o14, o15, o16] [zI (-1)] σ = zE 185 443 [some (zR 0), some (zR 9), some (zR 65), some (zR 66), some (zR 68), some (zI l5), some (zI l6), some (zI l7), some (zI l8), some (zI l9), some (zI l10), some (zI ((k + 1 : Nat) : Int)), some (zI (rO S k)), some (zI (-1)), o14, o15, o16] [] σ := by
        rw [X185_487, c1, zbI_some, w1, w2, n2, zgd_pos (by omega), s2, if_pos rfl, c2, zbI_some, if_pos rfl, c4, zbI_some, if_pos rfl, c5, zbI_some, if_pos hz, if_pos rfl, nx]
      by_cases z : rO S k = 0
      · rw [if_pos z, X185_469]; exact tl
      · rw [if_neg z, if_pos hz, X185_469]; exact tl
    · have w' : S 3 = 1 := by omega
      have hz : ¬ l10 = 0 := by omega
      obtain ⟨_, v3⟩ := hO.2 w'
      have hPB : PB S B := fun j o hl => by have := v3.pp j o hl; omega
      rw [if_neg w] at c4 c5 ⊢
      have tl : ∀ t : Int, -1 ≤ t → t ≤ 100000 → lt S 3 k = (if t ≤ rD S k then 0 else zw (t - rD S k)) → zE 11 0 [some (zR 0), some (zI (k : Int)), some (zI 4)] [] σ = zRI t σ → zE 185 487 [some (zR 0), some (zR 9), some (zR 65), some (zR 66), some (zR 68), some (zI l5), some (zI l6), some (zI l7), some (zI l8), some (zI l9), some (zI l10), some (zI (k : Int)), some (zI (rO S k)), o13, o14, o15, o16] [zI t] σ = zE 185 443 [some (zR 0), some (zR 9), some (zR 65), some (zR 66), some (zR 68), some (zI l5), some (zI l6), some (zI l7), some (zI l8), some (zI l9), some (zI l10), some (zI ((k + 1 : Nat) : Int)), some (zI (rO S k)), some (zI t), o14, o15, o16] [] σ := by
        intro t t1 t2 tv tc
        rw [X185_487, c1, zbI_some, w1, w2, n2, zgd_pos (by omega), s2, if_pos rfl, c2, zbI_some, if_pos rfl, tc, zbI_some, if_pos rfl, c5, zbI_some, if_neg hz, zgd_pos (by omega), s2, tv]
        by_cases u : t ≤ rD S k
        · rw [if_pos u, if_pos u, if_pos rfl, nx]
        · rw [if_neg u, if_neg u, zgd_pos (by omega), if_pos rfl, nx]
      by_cases z : rO S k = 0
      · rw [if_pos z] at c4 ⊢
        rw [if_pos z, X185_469]
        exact tl (-1) (by omega) (by omega) (by unfold lt; rw [if_pos z, if_pos (by omega)]) c4
      · obtain ⟨o, hno⟩ : ∃ o, nO S k - 1 = o := ⟨_, rfl⟩
        have hro : rO S k = (o : Int) + 1 := by unfold nO at hno; omega
        have hl : Live S k o := ⟨hj, by omega⟩
        have e173 := t173_3 h h3 hG hp hPB (by omega) hl
        have hpp := v3.pp k o hl
        have g5 := (hG.2.2.1 k o hl.1 hl.2).2
        have x4 : zw (4 * (k : Int)) = 4 * (k : Int) := zw_id (by omega) (by omega)
        have x5 : zw (zw (4 * (k : Int) + rO S k) - 1) = ((4 * k + o : Nat) : Int) := by
          rw [zw_id (x := 4 * (k : Int) + rO S k) (by omega) (by omega), zw_id (by omega) (by omega)]; omega
        rw [if_neg z, hno, zw_id (x := sP S (5 * k + o) + sU S (5 * k + o)) (by omega) (by omega)] at c4 ⊢
        rw [if_neg z, if_neg hz, x4, x5, e173, zbI_some]
        refine tl _ (by omega) (by omega) ?_ c4
        unfold lt
        rw [if_neg z, hno]
        have e8 : S (23 + 3 + 4 * (5 * k + o)) = sP S (5 * k + o) := rfl
        rw [e8, zw_id (x := sP S (5 * k + o) + sU S (5 * k + o)) (by omega) (by omega), zw_id (by omega) (by omega)]
        by_cases u : sP S (5 * k + o) + sU S (5 * k + o) ≤ rD S k
        · rw [if_pos u]; omega
        · rw [if_neg u]; omega
/-- same says yes -/
theorem t185 (hC : CR σ S B) (hw : LW σ S) (hmach : Mch S) (hB : 1150 ≤ B ∧ B ≤ 18000) : ∃ σ', zE 185 0 [some (zR 0), some (zR 9), some (zR 65), some (zR 66), some (zR 68), none, none, none, none, none, none, none, none, none, none, none, none] [] σ = zRI 1 σ' ∧ CR σ' S B ∧ LW σ' S := by
  have hO := hC.ok
  have hG := hO.1
  have g3 := hG.1.2.2.2
  obtain ⟨h3, h, hp, ho, h91, h92⟩ := id hw
  rw [X185_0, h91]
  by_cases w : S 3 = 0
  · have e0 : (if S 3 = 1 then 1 else 0 : Int) = 0 := if_neg (by omega)
    obtain ⟨p5, p6, p7, p9, p12, p13, p14, p15, p16, e1⟩ := t185_a0 hC hw w ⟨by omega, hB.2⟩ 12 0 rfl 0 0 0 0 none none none none none
    have e1' : zE 185 32 [some (zR 0), some (zR 9), some (zR 65), some (zR 66), some (zR 68), some (zI 0), some (zI 0), some (zI 0), some (zI 0), some (zI 0), some (zI 0), some (zI 0), none, none, none, none, none] [] σ = _ := e1
    obtain ⟨q12, q13, e2⟩ := t185_j hC hw ⟨by omega, hB.2⟩ p5 p6 p7 (f1 (gL S fCt) 12 0) p9 0 w.symm p14 p15 p16 3 0 rfl p12 p13
    have e2' : zE 185 443 [some (zR 0), some (zR 9), some (zR 65), some (zR 66), some (zR 68), some (zI p5), some (zI p6), some (zI p7), some (zI (f1 (gL S fCt) 12 0)), some (zI p9), some (zI 0), some (zI 0), p12, p13, p14, p15, p16] [] σ = _ := e2
    have e8 : f1 (gL S fCt) 12 0 = opn S := (gL_12 h3 fCt).trans (cnt_opn hG)
    have v2 := g_v2 hC
    rw [← e8] at v2
    have om := g_onMachine0 hC w (m := 0) (i := 0) ⟨by omega, by rw [h3.1.1]; omega⟩ (by omega)
    rw [e0, e1', X185_32, if_neg (by decide), e2', X185_443, if_neg (by decide), v2, zbI_some, if_pos rfl, g_v3 hC, zbI_some, h.1, if_pos rfl, g_v4 hC, zbI_some, h91, if_pos rfl, g_v5 hC, zbI_some, h92, if_pos rfl, if_pos rfl, g_v0 hC w (k := 6) (by omega), zbI_some, if_pos rfl, g_v0 hC w (k := 7) (by omega), zbI_some, if_pos rfl, g_v0 hC w (k := 8) (by omega), zbI_some, if_pos rfl, g_v0 hC w (k := 9) (by omega), zbI_some, if_pos rfl, c_meeting hC.sh hO (by omega), if_neg (by omega), zbI_some, if_pos rfl, g_latenessShifted0 hC w, zbI_some, if_pos rfl, zgc_pos (c_us0 hC (by omega) w), om, zbI_some, if_pos rfl, zgd_pos (by decide)]
    exact ⟨σ, rfl, hC, hw⟩
  · have w' : S 3 = 1 := by omega
    have e0 : (if S 3 = 1 then 1 else 0 : Int) = 1 := if_pos w'
    obtain ⟨p12, p13, p14, p15, p16, e1⟩ := t185_a1 hC hw hmach w' ⟨by omega, hB.2⟩ 12 0 rfl none none none none none
    have e1' : zE 185 32 [some (zR 0), some (zR 9), some (zR 65), some (zR 66), some (zR 68), some (zI 0), some (zI 0), some (zI 0), some (zI 0), some (zI 0), some (zI 1), some (zI 0), none, none, none, none, none] [] σ = _ := e1
    have e5 : f1 (gL S (fHt S)) 12 0 = htS S := gL_12 h3 (fHt S)
    have e7 : f1 (gL S (fMe S)) 12 0 = mtS S := gL_12 h3 (fMe S)
    have e8 : f1 (gL S fCt) 12 0 = opn S := (gL_12 h3 fCt).trans (cnt_opn hG)
    have e9 : f1 (gL S (fWk S)) 12 0 = aw S := (gL_12 h3 (fWk S)).trans (wk_aw hG)
    have mx : Mx 0 (Pend S (nJ S)) (f1 (gL S (fEn S)) 12 0) := by rw [gL_12 h3 (fEn S)]; exact en_mx
    rw [e5, e7, e8, e9] at e1'
    generalize f1 (gL S (fEn S)) 12 0 = m at e1' mx
    obtain ⟨q12, q13, e2⟩ := t185_j hC hw ⟨by omega, hB.2⟩ (htS S) m (mtS S) (opn S) (aw S) 1 w'.symm p14 p15 p16 3 0 rfl p12 p13
    have e2' : zE 185 443 [some (zR 0), some (zR 9), some (zR 65), some (zR 66), some (zR 68), some (zI (htS S)), some (zI m), some (zI (mtS S)), some (zI (opn S)), some (zI (aw S)), some (zI 1), some (zI 0), p12, p13, p14, p15, p16] [] σ = _ := e2
    obtain ⟨m', v8, mx'⟩ := g_v8 hC (by omega) w'
    have em : m' = m := mx'.uniq mx
    rw [em] at v8
    rw [e0, e1', X185_32, if_neg (by decide), e2', X185_443, if_neg (by decide), g_v2 hC, zbI_some, if_pos rfl, g_v3 hC, zbI_some, h.1, if_pos rfl, g_v4 hC, zbI_some, h91, if_pos rfl, g_v5 hC, zbI_some, h92, if_pos rfl, if_neg i10, g_v6 hC w', zbI_some, t180_2 h h3 hG ho, zbI_some, if_pos rfl, g_v7 hC w', zbI_some, t180_3 h h3 hG hp, zbI_some, if_pos rfl, v8, zbI_some, if_pos rfl, g_v9 hC (by omega) w', zbI_some, if_pos rfl, c_meeting hC.sh hO (by omega), if_pos w', zbI_some, if_pos rfl, zgc_pos (c_us1 hC (by omega) h3 w' mx)]
    exact ⟨σ, rfl, hC, hw⟩
end LAWF
