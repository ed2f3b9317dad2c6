/-! ===== 64: would: what the rules, shifting and overtime would bring ===== -/
/-- the law's rows tell of the row S, plans too -/
def LW (σ : zSt) (S : Row) : Prop := L3 S ∧ Wst σ S ∧ Wpr σ S ∧ Wol σ S ∧ σ 9 1 = S 3 ∧ σ 9 2 = S 4
/-- a fold over the twelve places is one over the operations -/
theorem f12 {α : Type} {S : Row} (h3 : L3 S) (f : Nat → Nat → α → α) (a : α) : f1 (fun k a => if ((k % 4 : Nat) : Int) < rO S (k / 4) then f (k / 4) (k % 4) a else a) 12 a = fA S f a := by
  have key : ∀ j, j ≤ 3 → f1 (fun k a => if ((k % 4 : Nat) : Int) < rO S (k / 4) then f (k / 4) (k % 4) a else a) (4 * j) a = fJ (nO S) f j a := by
    intro j
    induction j with
    | zero => intro _; rfl
    | succ j ih =>
      intro hj
      have g4 := h3.2.2 j (by omega)
      have hn : nO S j ≤ 4 := by unfold nO; omega
      have st : ∀ (i : Nat) (b : α), i < 4 → (if (((4 * j + i) % 4 : Nat) : Int) < rO S ((4 * j + i) / 4) then f ((4 * j + i) / 4) ((4 * j + i) % 4) b else b) = if i < nO S j then f j i b else b := by
        intro i b hi
        rw [show (4 * j + i) % 4 = i by omega, show (4 * j + i) / 4 = j by omega]
        by_cases c : i < nO S j
        · rw [if_pos c, if_pos (nO_lt.mp c)]
        · rw [if_neg c, if_neg (fun q => c (nO_lt.mpr q))]
      have s0 := st 0 (f1 (fun k a => if ((k % 4 : Nat) : Int) < rO S (k / 4) then f (k / 4) (k % 4) a else a) (4 * j) a) (by omega)
      have un : f1 (fun k a => if ((k % 4 : Nat) : Int) < rO S (k / 4) then f (k / 4) (k % 4) a else a) (4 * (j + 1)) a = (fun k a => if ((k % 4 : Nat) : Int) < rO S (k / 4) then f (k / 4) (k % 4) a else a) (4 * j + 3) ((fun k a => if ((k % 4 : Nat) : Int) < rO S (k / 4) then f (k / 4) (k % 4) a else a) (4 * j + 2) ((fun k a => if ((k % 4 : Nat) : Int) < rO S (k / 4) then f (k / 4) (k % 4) a else a) (4 * j + 1) ((fun k a => if ((k % 4 : Nat) : Int) < rO S (k / 4) then f (k / 4) (k % 4) a else a) (4 * j + 0) (f1 (fun k a => if ((k % 4 : Nat) : Int) < rO S (k / 4) then f (k / 4) (k % 4) a else a) (4 * j) a)))) := rfl
      rw [un]
      dsimp only
      rw [st 0 _ (by omega), st 1 _ (by omega), st 2 _ (by omega), st 3 _ (by omega), ih (by omega)]
      show _ = fO f j (nO S j) (fJ (nO S) f j a)
      generalize nO S j = n at hn
      rcases (show n = 0 ∨ n = 1 ∨ n = 2 ∨ n = 3 ∨ n = 4 by omega) with q | q | q | q | q <;> subst q <;> rfl
  have e := key 3 (Nat.le_refl _)
  unfold fA
  rw [nJ3 h3]
  exact e
/-- lateness looks at the last starts only -/
theorem lt_congr {S Q Q' : Row} (hG : Good S) (st : StaP S Q) (st' : StaP S Q') (h : ∀ j o, Live S j o → sP Q (5 * j + o) = sP Q' (5 * j + o)) {n : Nat} (hj : (n : Int) < S 1) : lt Q 3 n = lt Q' 3 n := by
  have hj6 := hG.j6 hj
  have g := (hG.2.1 n hj).2.2
  have a1 : rO Q n = rO S n := st.sta.o hj6
  have a2 : rO Q' n = rO S n := st'.sta.o hj6
  have a3 : nO Q n = nO S n := st.sta.no hj6
  have a4 : nO Q' n = nO S n := st'.sta.no hj6
  have a5 : rD Q n = rD S n := st.sta.d hj6
  have a6 : rD Q' n = rD S n := st'.sta.d hj6
  unfold lt
  rw [a1, a2, a3, a4, a5, a6]
  by_cases c : rO S n = 0
  · rw [if_pos c, if_pos c]
  · rw [if_neg c, if_neg c]
    obtain ⟨o, ho⟩ : ∃ o, nO S n - 1 = o := ⟨_, rfl⟩
    have hl : Live S n o := ⟨hj, by unfold nO at ho; omega⟩
    have e8 : sP Q (5 * n + o) = sP Q' (5 * n + o) := h n o hl
    have e7 : Q (23 + 3 + 4 * (5 * n + o)) = sP Q (5 * n + o) := rfl
    have e6 : Q' (23 + 3 + 4 * (5 * n + o)) = sP Q' (5 * n + o) := rfl
    have e5 : sU Q (5 * n + o) = sU S (5 * n + o) := st.sta.u _
    have e4' : sU Q' (5 * n + o) = sU S (5 * n + o) := st'.sta.u _
    rw [ho, e7, e6, e5, e4', e8]
theorem f1_congr {α : Type} {f g : Nat → α → α} : ∀ (n : Nat) (a : α), (∀ j a, j < n → f j a = g j a) → f1 f n a = f1 g n a
  | 0, a, _ => rfl
  | n + 1, a, h => by
    show f n (f1 f n a) = g n (f1 g n a)
    rw [f1_congr n a (fun j a hj => h j a (by omega)), h n _ (by omega)]
theorem ltS_congr {S Q Q' : Row} (hG : Good S) (st : StaP S Q) (st' : StaP S Q') (h : ∀ j o, Live S j o → sP Q (5 * j + o) = sP Q' (5 * j + o)) : ltS Q 3 = ltS Q' 3 := by
  have a1 : nJ Q = nJ S := st.sta.nj
  have a2 : nJ Q' = nJ S := st'.sta.nj
  unfold ltS
  rw [a1, a2]
  refine f1_congr (nJ S) 0 (fun j a hj => ?_)
  have hjl := nJ_lt.mp hj
  have hj6 := hG.j6 hjl
  have b1 : rW Q j = rW S j := st.sta.w hj6
  have b2 : rW Q' j = rW S j := st'.sta.w hj6
  rw [b1, b2, lt_congr hG st st' h hjl]
theorem ltS_le {S : Row} (hG : Good S) (h3 : L3 S) {B : Int} (hB : 0 ≤ B ∧ B ≤ 20000) (hV : Val S 3 B) : 0 ≤ ltS S 3 ∧ ltS S 3 ≤ 999999 := by
  have e : ∀ n, n ≤ 3 → 0 ≤ f1 (fun j a => zw (a + zw (rW S j * lt S 3 j))) n 0 ∧ f1 (fun j a => zw (a + zw (rW S j * lt S 3 j))) n 0 ≤ 200000 * n := by
    intro n
    induction n with
    | zero => intro _; exact ⟨Int.le_refl _, Int.le_refl _⟩
    | succ n ih =>
      intro hn
      obtain ⟨i1, i2⟩ := ih (by omega)
      have hj : (n : Int) < S 1 := by rw [h3.1.2]; omega
      have g := hG.2.1 n hj
      have hlt : 0 ≤ lt S 3 n ∧ lt S 3 n ≤ 20020 := by
        unfold lt
        by_cases c : rO S n = 0
        · rw [if_pos c]; omega
        · have hl : Live S n (nO S n - 1) := ⟨hj, by unfold nO; omega⟩
          have v := hV.1 n _ hl
          have u := (hG.2.2.1 n _ hl.1 hl.2).2
          rw [if_neg c, zw_id (x := S (23 + 3 + 4 * (5 * n + (nO S n - 1))) + sU S (5 * n + (nO S n - 1))) (by omega) (by omega), zw_id (by omega) (by omega)]
          omega
      have hm : 0 ≤ rW S n * lt S 3 n := Int.mul_nonneg (by omega) hlt.1
      have hm2 : rW S n * lt S 3 n ≤ 9 * 20020 := Int.mul_le_mul g.1.2 hlt.2 hlt.1 (by omega)
      show 0 ≤ zw (f1 (fun j a => zw (a + zw (rW S j * lt S 3 j))) n 0 + zw (rW S n * lt S 3 n)) ∧ zw (f1 (fun j a => zw (a + zw (rW S j * lt S 3 j))) n 0 + zw (rW S n * lt S 3 n)) ≤ 200000 * ((n + 1 : Nat) : Int)
      rw [zw_id (x := rW S n * lt S 3 n) (by omega) (by omega), zw_id (by omega) (by omega)]
      omega
  have q := e 3 (Nat.le_refl _)
  unfold ltS
  rw [nJ3 h3]
  omega
/-- what holds all along: the class tells of S, the static rows too, the plans are kept -/
def WI (σ : zSt) (S : Row) (B : Int) (τ : zSt) : Prop := CR τ S B ∧ Wst τ S ∧ (∀ x : Nat, x < 48 → τ 67 x = σ 66 x) ∧ τ 9 2 = σ 9 2
section LAWW
variable {σ : zSt} {S : Row} {B : Int}
theorem WI.fo {τ τ' : zSt} (h : WI σ S B τ) (e : Fo τ τ') : WI σ S B τ' := ⟨h.1.fl e.fl, e.ls h.2.1, fun x hx => by rw [e.1 67 (by decide) (by decide)]; exact h.2.2.1 x hx, by rw [e.2.1 2 (by decide)]; exact h.2.2.2⟩
theorem Wst.fr {τ τ' : zSt} (h : Wst τ S) (e : Fr3 τ τ') : Wst τ' S := by
  obtain ⟨a1, a2, a3, a4⟩ := h
  refine ⟨by rw [e 9 (by decide) (by decide) (by decide)]; exact a1, fun j hj => ?_, fun j o hl => ?_, fun b hb => ?_⟩
  · rw [e 65 (by decide) (by decide) (by decide)]; exact a2 j hj
  · rw [e 66 (by decide) (by decide) (by decide)]; exact a3 j o hl
  · rw [e 68 (by decide) (by decide) (by decide)]; exact a4 b hb
theorem WI.fr {τ τ' : zSt} (h : WI σ S B τ) (e : Fr3 τ τ') : WI σ S B τ' := ⟨h.1.fr3 e, h.2.1.fr e, fun x hx => by rw [e 67 (by decide) (by decide) (by decide)]; exact h.2.2.1 x hx, by rw [e 9 (by decide) (by decide) (by decide)]; exact h.2.2.2⟩
/-- the plans are brought back -/
theorem WI.back {τ τ' : zSt} (h : WI σ S B τ) (hw : LW σ S) (k1 : ∀ k : Nat, k ≠ 66 → τ' k = τ k) (k2 : ∀ x : Nat, x < 48 → τ' 66 x = τ 67 x) : WI σ S B τ' ∧ Wpr τ' S ∧ Wol τ' S := by
  obtain ⟨l3, w1, w2, w3, w4, w5⟩ := hw
  have e : ∀ x, x < 48 → τ' 66 x = σ 66 x := fun x hx => (k2 x hx).trans (h.2.2.1 x hx)
  have fl : FL τ τ' := fun k h1 h2 => k1 k (by omega)
  obtain ⟨a1, a2, a3, a4⟩ := h.2.1
  refine ⟨⟨h.1.fl fl, ⟨by rw [k1 9 (by decide)]; exact a1, fun j hj => by rw [k1 65 (by decide)]; exact a2 j hj, fun j o hl => ?_, fun b hb => by rw [k1 68 (by decide)]; exact a4 b hb⟩, fun x hx => by rw [k1 67 (by decide)]; exact h.2.2.1 x hx, by rw [k1 9 (by decide)]; exact h.2.2.2⟩, fun j o hl => ?_, fun j o hl => ?_⟩
  · have hab := l3.j3 hl
    rw [e _ (by omega), e _ (by omega)]; exact w1.2.2.1 j o hl
  · have hab := l3.j3 hl
    rw [e _ (by omega)]; exact w2 j o hl
  · have hab := l3.j3 hl
    rw [e _ (by omega)]; exact w3 j o hl
/-- a plan by a rule, and its lateness -/
theorem w_plan {τ : zSt} (h : WI σ S B τ) (h3 : L3 S) (hG : Good S) (r : Int) : ∃ τ', zE 181 0 [some (zI r), some (zR 9), some (zR 65), some (zR 66), some (zR 68), none] [] τ = zRV τ' ∧ zE 180 0 [some (zI 3), some (zR 65), some (zR 66), none, none, none, none] [] τ' = zRI (ltS (mpS S r) 3) τ' ∧ WI σ S B τ' := by
  obtain ⟨τ', a1, a2, a3, a4, a5⟩ := t181 h.2.1 h3 hG r
  have hi := h.fo a2
  exact ⟨τ', a1, t180_3 (hi.2.1.of (mpS_stt hG) hG h3) ((mpS_stt hG).l3 hG h3) (mpS_good hG) a3, hi⟩
/-- over the rules -/
theorem w_rules (h3 : L3 S) (hG : Good S) (m r : Int) (l8 : Int) : ∀ (d : Nat) (l b : Int) (τ : zSt) (o12 : Option zVal), l + d = 4 → 0 ≤ l → 0 ≤ b → WI σ S B τ →
    ∃ τ' p12, zE 186 21 [some (zR 0), some (zI m), some (zI r), some (zR 9), some (zR 65), some (zR 66), some (zR 68), some (zR 67), some (zI l8), some (zI b), some (zI (ltS (mpS S b) 3)), some (zI l), o12, none, none] [] τ = zE 186 21 [some (zR 0), some (zI m), some (zI r), some (zR 9), some (zR 65), some (zR 66), some (zR 68), some (zR 67), some (zI l8), some (zI (bst4 (fun r => ltS (mpS S r) 3) d l b)), some (zI (ltS (mpS S (bst4 (fun r => ltS (mpS S r) 3) d l b)) 3)), some (zI 4), p12, none, none] [] τ' ∧ WI σ S B τ' := by
  intro d
  induction d with
  | zero =>
    intro l b τ o12 hl h0 hb hi
    have : l = 4 := by omega
    subst this
    exact ⟨τ, o12, rfl, hi⟩
  | succ d ih =>
    intro l b τ o12 hl h0 hb hi
    obtain ⟨τ1, a1, a2, a3⟩ := w_plan hi h3 hG l
    obtain ⟨τ2, b1, b2⟩ := g_latenessBy a3.1 (r := l) (by omega)
    have eb : bst4 (fun r => ltS (mpS S r) 3) (d + 1) l b = bst4 (fun r => ltS (mpS S r) 3) d (l + 1) (if ltS (mpS S l) 3 < ltS (mpS S b) 3 then l else b) := rfl
    obtain ⟨τ', p12, c1, c2⟩ := ih (l + 1) (if ltS (mpS S l) 3 < ltS (mpS S b) 3 then l else b) τ2 (some (zI (ltS (mpS S l) 3))) (by omega) (by omega) (by split <;> omega) (a3.fr b2)
    refine ⟨τ', p12, ?_, c2⟩
    rw [X186_21, if_pos (by omega), a1, zbV_some, a2, zbI_some, b1, zbI_some, if_pos rfl, if_neg (show ¬ b < 0 by omega), X186_81, zw_id (x := l + 1) (by omega) (by omega), eb]
    by_cases q : ltS (mpS S l) 3 < ltS (mpS S b) 3
    · rw [if_pos q] at c1 ⊢
      rw [if_pos rfl]
      exact c1
    · rw [if_neg q] at c1 ⊢
      by_cases q2 : b = l
      · subst q2
        rw [if_pos rfl]
        exact c1
      · rw [if_neg q2]
        exact c1
/-- one hour less -/
theorem ovD_stt {i : Nat} (hi : i < 30) {k : Nat} (hk : k ≠ 24 + 4 * i) : ovD S i k = S k := rset_of hk
theorem ovD_l3 (h3 : L3 S) {i : Nat} : L3 (ovD S i) := by
  refine ⟨⟨by rw [show ovD S i 0 = S 0 from rset_of (by omega)]; exact h3.1.1, by rw [show ovD S i 1 = S 1 from rset_of (by omega)]; exact h3.1.2⟩, by rw [show ovD S i 2 = S 2 from rset_of (by omega)]; exact h3.2.1, fun j hj => ?_⟩
  have e : rO (ovD S i) j = rO S j := rset_of (by omega)
  rw [e]; exact h3.2.2 j hj
theorem ovD_ls {τ : zSt} (h : Wst τ S) (h3 : L3 S) (hG : Good S) {j o : Nat} (hl : Live S j o) : Wst (zup τ 66 (16 * j + 4 * o + 1) (sU S (5 * j + o) - 1)) (ovD S (5 * j + o)) := by
  obtain ⟨a1, a2, a3, a4⟩ := h
  obtain ⟨hj, ho⟩ := h3.j3 hl
  have lv : ∀ j' o', Live (ovD S (5 * j + o)) j' o' → Live S j' o' := by
    rintro j' o' ⟨x1, x2⟩
    rw [show ovD S (5 * j + o) 1 = S 1 from rset_of (by omega)] at x1
    have hj6 := hG.j6 x1
    rw [show rO (ovD S (5 * j + o)) j' = rO S j' from rset_of (by omega)] at x2
    exact ⟨x1, x2⟩
  refine ⟨?_, fun j' hj' => ?_, fun j' o' hl' => ?_, fun b hb => ?_⟩
  · rw [zup_off (by decide), show ovD S (5 * j + o) 2 = S 2 from rset_of (by omega)]; exact a1
  · rw [zup_off (by decide), show rW (ovD S (5 * j + o)) j' = rW S j' from rset_of (by omega), show rD (ovD S (5 * j + o)) j' = rD S j' from rset_of (by omega), show rO (ovD S (5 * j + o)) j' = rO S j' from rset_of (by omega)]
    exact a2 j' hj'
  · have hl2 := lv j' o' hl'
    obtain ⟨hj', ho'⟩ := h3.j3 hl2
    rw [zup_of (i' := 16 * j' + 4 * o') (by omega), show sM (ovD S (5 * j + o)) (5 * j' + o') = sM S (5 * j' + o') from rset_of (by omega)]
    refine ⟨(a3 j' o' hl2).1, ?_⟩
    by_cases e : j' = j ∧ o' = o
    · obtain ⟨rfl, rfl⟩ := e
      rw [zup_at]
      exact (rset_eq rfl).symm
    · rw [zup_of (by omega), show sU (ovD S (5 * j + o)) (5 * j' + o') = sU S (5 * j' + o') from rset_of (by omega)]
      exact (a3 j' o' hl2).2
  · rw [show ovD S (5 * j + o) 2 = S 2 from rset_of (by omega)] at hb
    have := h3.2.1
    rw [zup_off (by decide), show bM (ovD S (5 * j + o)) b = bM S b from rset_of (by omega), show bF (ovD S (5 * j + o)) b = bF S b from rset_of (by omega), show bL (ovD S (5 * j + o)) b = bL S b from rset_of (by omega)]
    exact a4 b hb
/-- over the operations -/
theorem w_over (h3 : L3 S) (hG : Good S) (m r l8 l9 l10 : Int) : ∀ (d e : Nat) (a : Int × Int) (τ : zSt) (o14 : Option zVal), e + d = 12 → WI σ S B τ →
    ∃ τ' p14, zE 186 143 [some (zR 0), some (zI m), some (zI r), some (zR 9), some (zR 65), some (zR 66), some (zR 68), some (zR 67), some (zI l8), some (zI l9), some (zI l10), some (zI (f1 (fun k a => if ((k % 4 : Nat) : Int) < rO S (k / 4) then fOv S r (k / 4) (k % 4) a else a) e a).2), some (zI (f1 (fun k a => if ((k % 4 : Nat) : Int) < rO S (k / 4) then fOv S r (k / 4) (k % 4) a else a) e a).1), some (zI (e : Int)), o14] [] τ = zE 186 143 [some (zR 0), some (zI m), some (zI r), some (zR 9), some (zR 65), some (zR 66), some (zR 68), some (zR 67), some (zI l8), some (zI l9), some (zI l10), some (zI (f1 (fun k a => if ((k % 4 : Nat) : Int) < rO S (k / 4) then fOv S r (k / 4) (k % 4) a else a) 12 a).2), some (zI (f1 (fun k a => if ((k % 4 : Nat) : Int) < rO S (k / 4) then fOv S r (k / 4) (k % 4) a else a) 12 a).1), some (zI 12), p14] [] τ' ∧ WI σ S B τ' := by
  intro d
  induction d with
  | zero =>
    intro e a τ o14 he hi
    have : e = 12 := by omega
    subst this
    exact ⟨τ, o14, rfl, hi⟩
  | succ d ih =>
    intro e a τ o14 he hi
    obtain ⟨j, o, hk, ho4⟩ : ∃ j o : Nat, e = 4 * j + o ∧ o < 4 := ⟨e / 4, e % 4, by omega, by omega⟩
    have hj3 : j < 3 := by omega
    have hw := hi.2.1
    have ef : f1 (fun k a => if ((k % 4 : Nat) : Int) < rO S (k / 4) then fOv S r (k / 4) (k % 4) a else a) (e + 1) a = if (o : Int) < rO S j then fOv S r j o (f1 (fun k a => if ((k % 4 : Nat) : Int) < rO S (k / 4) then fOv S r (k / 4) (k % 4) a else a) e a) else f1 (fun k a => if ((k % 4 : Nat) : Int) < rO S (k / 4) then fOv S r (k / 4) (k % 4) a else a) e a := by
      show (if ((e % 4 : Nat) : Int) < rO S (e / 4) then fOv S r (e / 4) (e % 4) _ else _) = _
      rw [show e % 4 = o by omega, show e / 4 = j by omega]
    generalize f1 (fun k a => if ((k % 4 : Nat) : Int) < rO S (k / 4) then fOv S r (k / 4) (k % 4) a else a) e a = x at ef ⊢
    have nx : zw ((e : Int) + 1) = ((e + 1 : Nat) : Int) := zw_nat1 (by omega)
    have e172 := t172 hw hj3 ho4
    rw [← hk] at e172
    rw [X186_143, if_pos (by omega), e172, zbI_some, nx]
    by_cases c1 : (o : Int) < rO S j
    · have hl : Live S j o := h3.live hj3 c1
      have g5 := (hG.2.2.1 j o hl.1 hl.2).2
      have w1 : zw (zw (4 * (e : Int)) + 1) = 4 * (e : Int) + 1 := by rw [zw_id (x := 4 * (e : Int)) (by omega) (by omega), zw_id (by omega) (by omega)]
      have n1 : (4 * (e : Int) + 1).toNat = 16 * j + 4 * o + 1 := by omega
      rw [if_pos c1] at ef
      rw [if_pos c1, if_neg i10, w1, n1, zgd_pos (by omega), (hw.2.2.1 j o hl).2]
      by_cases c2 : sU S (5 * j + o) = 1
      · have e9 : fOv S r j o x = x := by unfold fOv; rw [if_neg (fun q => by have := q.1; omega)]
        rw [e9] at ef
        obtain ⟨τ', p14, b1, b2⟩ := ih (e + 1) a τ o14 (by omega) hi
        rw [ef] at b1
        rw [if_pos c2]
        exact ⟨τ', p14, b1, b2⟩
      · have h1 : 1 < sU S (5 * j + o) := by omega
        have hG2 := ovD_good hG hl h1
        have h32 := ovD_l3 h3 (i := 5 * j + o)
        obtain ⟨τ1, a1, a2, a3, a4, a5⟩ := t181 (ovD_ls hw h3 hG hl) h32 hG2 r
        have hw1 := (a2.ls (ovD_ls hw h3 hG hl)).of (mpS_stt hG2 (rule := r)) hG2 h32
        have e180 := t180_3 hw1 ((mpS_stt hG2).l3 hG2 h32) (mpS_good hG2) a3
        have hov : ltS (mpS (ovD S (5 * j + o)) r) 3 = ovL S r (5 * j + o) := rfl
        rw [hov] at e180
        -- the hour is given back
        have hi2 : WI σ S B (zup τ1 66 (16 * j + 4 * o + 1) (sU S (5 * j + o))) := by
          have fl : FL τ (zup τ1 66 (16 * j + 4 * o + 1) (sU S (5 * j + o))) := fun k q1 q2 => by rw [zup_off (by omega), a2.1 k (by omega) q1, zup_off (by omega)]
          obtain ⟨b1, b2, b3, b4⟩ := hw
          refine ⟨hi.1.fl fl, ⟨?_, fun j' hj' => ?_, fun j' o' hl' => ?_, fun b hb => ?_⟩, fun y hy => ?_, ?_⟩
          · rw [zup_off (by decide), a2.2.1 0 (by decide), zup_off (by decide)]; exact b1
          · rw [zup_off (by decide), a2.1 65 (by decide) (by decide), zup_off (by decide)]; exact b2 j' hj'
          · obtain ⟨hj', ho'⟩ := h3.j3 hl'
            rw [zup_of (i' := 16 * j' + 4 * o') (by omega), a2.2.2 _ (by omega), zup_of (i' := 16 * j' + 4 * o') (by omega)]
            refine ⟨(b3 j' o' hl').1, ?_⟩
            by_cases q : j' = j ∧ o' = o
            · obtain ⟨rfl, rfl⟩ := q
              exact zup_at _ _ _ _
            · rw [zup_of (by omega), a2.2.2 _ (by omega), zup_of (by omega)]
              exact (b3 j' o' hl').2
          · rw [zup_off (by decide), a2.1 68 (by decide) (by decide), zup_off (by decide)]; exact b4 b hb
          · rw [zup_off (by decide), a2.1 67 (by decide) (by decide), zup_off (by decide)]; exact hi.2.2.1 y hy
          · rw [zup_off (by decide), a2.2.1 2 (by decide), zup_off (by decide)]; exact hi.2.2.2
        have k1 : τ1 66 (16 * j + 4 * o + 1) = sU S (5 * j + o) - 1 := by rw [a2.2.2 _ (by omega), zup_at]
        obtain ⟨q1, q2⟩ := e4 (j := j) ho4
        rw [← hk] at q1 q2
        have w10 : zw (zw (10 * (j : Int)) + (o : Int)) = 10 * (j : Int) + o := by rw [zw_id (x := 10 * (j : Int)) (by omega) (by omega), zw_id (by omega) (by omega)]
        rw [if_neg c2, zgd_pos (by omega), zgd_pos (by omega), zw_id (x := sU S (5 * j + o) - 1) (by omega) (by omega), a1, zbV_some, e180, zbI_some, zgd_pos (by omega), zgd_pos (by omega), k1, zw_id (x := sU S (5 * j + o) - 1 + 1) (by omega) (by omega), show sU S (5 * j + o) - 1 + 1 = sU S (5 * j + o) by omega, q1, q2, w10]
        obtain ⟨τ', p14, b1, b2⟩ := ih (e + 1) a (zup τ1 66 (16 * j + 4 * o + 1) (sU S (5 * j + o))) (some (zI (ovL S r (5 * j + o)))) (by omega) hi2
        refine ⟨τ', p14, ?_, b2⟩
        rw [ef] at b1
        unfold fOv at b1
        by_cases q : ovL S r (5 * j + o) < x.2
        · rw [if_pos ⟨h1, q⟩] at b1
          rw [if_pos q, zgd_pos (by omega), zgd_pos (by omega), X186_247, if_pos q, nx]
          exact b1
        · rw [if_neg (fun w => q w.2)] at b1
          rw [if_neg q, X186_247, if_neg q, nx]
          exact b1
    · rw [if_neg c1] at ef
      obtain ⟨τ', p14, b1, b2⟩ := ih (e + 1) a τ o14 (by omega) hi
      rw [ef] at b1
      rw [if_neg c1, if_pos rfl]
      exact ⟨τ', p14, b1, b2⟩
/-- plans made anew, over the rules -/
theorem w_anew (hw : LW σ S) (hG : Good S) (c1 : S 3 = 1) (hV : Val S 3 B) (hB : 999 ≤ B ∧ B ≤ 700000) {m : Int} (hm : 0 ≤ m ∧ m ≤ 999) (r l8 l11 l12 : Int) : ∀ (d : Nat) (l b L0 : Int) (τ : zSt) (o14 : Option zVal), l + d = 4 → 0 ≤ l → (0 ≤ b ∧ L0 = ltS (paS S m b) 3 ∨ (b = -1 ∧ l = 0)) → WI σ S B τ →
    ∃ τ' p14 b', 0 ≤ b' ∧ zE 186 348 [some (zR 0), some (zI m), some (zI r), some (zR 9), some (zR 65), some (zR 66), some (zR 68), some (zR 67), some (zI l8), some (zI b), some (zI L0), some (zI l11), some (zI l12), some (zI l), o14] [] τ = zE 186 348 [some (zR 0), some (zI m), some (zI r), some (zR 9), some (zR 65), some (zR 66), some (zR 68), some (zR 67), some (zI l8), some (zI b'), some (zI (ltS (paS S m b') 3)), some (zI l11), some (zI l12), some (zI 4), p14] [] τ' ∧ WI σ S B τ' ∧ (d = 0 ∨ b' = (if b = -1 then bst4 (fun r => ltS (paS S m r) 3) (d - 1) (l + 1) l else bst4 (fun r => ltS (paS S m r) 3) d l b)) ∧ (d = 0 → b' = b) ∧ τ' 9 1 = τ 9 1 := by
  intro d
  induction d with
  | zero =>
    intro l b L0 τ o14 hl h0 hb hi
    have : l = 4 := by omega
    subst this
    rcases hb with ⟨hb1, hb2⟩ | ⟨_, hb2⟩
    · subst hb2
      exact ⟨τ, o14, b, hb1, rfl, hi, Or.inl rfl, fun _ => rfl, rfl⟩
    · omega
  | succ d ih =>
    intro l b L0 τ o14 hl h0 hb hi
    obtain ⟨τ1, a1, a2, a3⟩ := t184_i τ
    obtain ⟨b1, b2, b3⟩ := hi.back hw a2 a3
    obtain ⟨τ2, c1', c2, c3⟩ := t183 b1.2.1 hw.1 hG b2 hV.pp (moment := m) (rule := l) (by omega) (by omega)
    have stR := (paS_ok hG hV (rule := l) (moment := m) (by omega) (by omega)).1
    have hi2 := b1.fo c2.fo
    have e180 := t180_3 (hi2.2.1.of stR.sta.stt hG hw.1) (stR.sta.stt.l3 hG hw.1) (stR.sta.good hG) c3
    have eb : ∀ b, bst4 (fun r => ltS (paS S m r) 3) (d + 1) l b = bst4 (fun r => ltS (paS S m r) 3) d (l + 1) (if ltS (paS S m l) 3 < ltS (paS S m b) 3 then l else b) := fun _ => rfl
    have step : ∀ nb : Int, 0 ≤ nb → (if nb = l then ltS (paS S m l) 3 else L0) = ltS (paS S m nb) 3 → (if b < 0 then l else (if ltS (paS S m l) 3 < L0 then l else b : Int) : Int) = nb → (nb = (if b = -1 then l else (if ltS (paS S m l) 3 < ltS (paS S m b) 3 then l else b))) →
        ∃ τ' p14 b', 0 ≤ b' ∧ zE 186 348 [some (zR 0), some (zI m), some (zI r), some (zR 9), some (zR 65), some (zR 66), some (zR 68), some (zR 67), some (zI l8), some (zI b), some (zI L0), some (zI l11), some (zI l12), some (zI l), o14] [] τ = zE 186 348 [some (zR 0), some (zI m), some (zI r), some (zR 9), some (zR 65), some (zR 66), some (zR 68), some (zR 67), some (zI l8), some (zI b'), some (zI (ltS (paS S m b') 3)), some (zI l11), some (zI l12), some (zI 4), p14] [] τ' ∧ WI σ S B τ' ∧ (d + 1 = 0 ∨ b' = (if b = -1 then bst4 (fun r => ltS (paS S m r) 3) (d + 1 - 1) (l + 1) l else bst4 (fun r => ltS (paS S m r) 3) (d + 1) l b)) ∧ (d + 1 = 0 → b' = b) ∧ τ' 9 1 = τ 9 1 := by
      intro nb hnb hL hc hq
      obtain ⟨τ', p14, b', f0, f1', f2, f3, f4, f5⟩ := ih (l + 1) nb (ltS (paS S m nb) 3) τ2 (some (zI (ltS (paS S m l) 3))) (by omega) (by omega) (Or.inl ⟨hnb, rfl⟩) hi2
      refine ⟨τ', p14, b', f0, ?_, f2, Or.inr ?_, fun q => absurd q (by omega), by rw [f5, c2.1 9 (by decide), a2 9 (by decide)]⟩
      · rw [X186_348, if_pos (by omega), a1, zbV_some, c1', zbV_some, e180, zbI_some, hc, X186_403, hL, zw_id (x := l + 1) (by omega) (by omega)]
        exact f1'
      · have e9 : b' = bst4 (fun r => ltS (paS S m r) 3) d (l + 1) nb := by
          rcases f3 with w | w
          · subst w; exact f4 rfl
          · rw [if_neg (by omega)] at w; exact w
        rw [e9, hq]
        by_cases z : b = -1
        · rw [if_pos z, if_pos z]; rfl
        · rw [if_neg z, if_neg z, eb]
    rcases hb with ⟨hb1, hb2⟩ | ⟨hb1, hb2⟩
    · subst hb2
      by_cases q : ltS (paS S m l) 3 < ltS (paS S m b) 3
      · exact step l h0 (by rw [if_pos rfl]) (by rw [if_neg (by omega), if_pos q]) (by rw [if_neg (by omega), if_pos q])
      · refine step b hb1 ?_ (by rw [if_neg (by omega), if_neg q]) (by rw [if_neg (by omega), if_neg q])
        by_cases z : b = l
        · rw [if_pos z, z]
        · rw [if_neg z]
    · exact step l h0 (by rw [if_pos rfl]) (by rw [if_pos (by omega)]) (by rw [if_pos hb1])
theorem bst4_ge {L : Int → Int} : ∀ (d : Nat) (l b : Int), 0 ≤ l → 0 ≤ b → l + d = 4 → b ≤ 3 → 0 ≤ bst4 L d l b ∧ bst4 L d l b ≤ 3
  | 0, l, b, _, hb, _, h => ⟨hb, h⟩
  | d + 1, l, b, hl, hb, h, h' => by
    show 0 ≤ bst4 L d (l + 1) (if L l < L b then l else b) ∧ bst4 L d (l + 1) (if L l < L b then l else b) ≤ 3
    exact bst4_ge d (l + 1) _ (by omega) (by split <;> omega) (by omega) (by split <;> omega)
/-- would agrees -/
theorem t186 (hC : CR σ S B) (hw : LW σ S) (hB : 1150 ≤ B ∧ B ≤ 18000) {m r : Int} (hm : 0 ≤ m ∧ m ≤ 999) (hr : 0 ≤ r ∧ r ≤ 3) : ∃ σ', zE 186 0 [some (zR 0), some (zI m), some (zI r), some (zR 9), some (zR 65), some (zR 66), some (zR 68), some (zR 67), none, none, none, none, none, none, none] [] σ = zRI 1 σ' ∧ CR σ' S B ∧ LW σ' S := by
  have hO := hC.ok
  have hG := hO.1
  have h3 := hw.1
  have g3 := hG.1.2.2.2
  obtain ⟨σ1, a1, a2, a3⟩ := t184_o σ
  have hi1 : WI σ S B σ1 := by
    obtain ⟨w1, w2, w3, w4⟩ := hw.2.1
    refine ⟨hC.fl (fun k q1 q2 => a2 k (by omega)), ⟨by rw [a2 9 (by decide)]; exact w1, fun j hj => by rw [a2 65 (by decide)]; exact w2 j hj, fun j o hl => by rw [a2 66 (by decide)]; exact w3 j o hl, fun b hb => by rw [a2 68 (by decide)]; exact w4 b hb⟩, a3, by rw [a2 9 (by decide)]⟩
  -- the first rule
  obtain ⟨τ1, b1, b2, b3⟩ := w_plan hi1 h3 hG 0
  obtain ⟨τ2, b4, b5⟩ := g_latenessBy b3.1 (r := 0) (by omega)
  obtain ⟨τ3, p12, c1, c2⟩ := w_rules h3 hG m r (σ 9 1) 3 1 0 τ2 (some (zI (ltS (mpS S 0) 3))) (by omega) (by omega) (by omega) (b3.fr b5)
  obtain ⟨τ4, d1, d2⟩ := g_bestRule c2.1
  obtain ⟨τ5, e1, e2, e3⟩ := w_plan (c2.fr d2) h3 hG r
  obtain ⟨τ6, p14, f1', f2⟩ := w_over h3 hG m r (σ 9 1) (bst4 (fun r => ltS (mpS S r) 3) 3 1 0) (ltS (mpS S (bst4 (fun r => ltS (mpS S r) 3) 3 1 0)) 3) 12 0 (-1, ltS (mpS S r) 3) τ5 none rfl e3
  obtain ⟨τ7, g1, g2⟩ := g_bestOvertime f2.1 hr
  have h7 := f2.fr g2
  obtain ⟨τ8, k1, k2, k3⟩ := t184_i τ7
  obtain ⟨h8, h8p, h8l⟩ := h7.back hw k2 k3
  have e12 := f12 h3 (fOv S r) ((-1 : Int), ltS (mpS S r) 3)
  have f1'' : zE 186 143 [some (zR 0), some (zI m), some (zI r), some (zR 9), some (zR 65), some (zR 66), some (zR 68), some (zR 67), some (zI (σ 9 1)), some (zI (bst4 (fun r => ltS (mpS S r) 3) 3 1 0)), some (zI (ltS (mpS S (bst4 (fun r => ltS (mpS S r) 3) 3 1 0)) 3)), some (zI (ltS (mpS S r) 3)), some (zI (-1)), some (zI 0), none] [] τ5 = _ := f1'
  have c1' : zE 186 21 [some (zR 0), some (zI m), some (zI r), some (zR 9), some (zR 65), some (zR 66), some (zR 68), some (zR 67), some (zI (σ 9 1)), some (zI 0), some (zI (ltS (mpS S 0) 3)), some (zI 1), some (zI (ltS (mpS S 0) 3)), none, none] [] τ2 = _ := c1
  rw [X186_0, a1, zbV_some, X186_21, if_pos (by decide), b1, zbV_some, b2, zbI_some, b4, zbI_some, if_pos rfl, if_pos (by decide), X186_81, if_pos rfl, show zw (0 + 1) = 1 by exact zw_id (by omega) (by omega), c1', X186_21, if_neg (by decide), d1, zbI_some, if_pos rfl, e1, zbV_some, e2, zbI_some, f1'', X186_143, if_neg (by decide), g1, zbI_some, e12, if_pos rfl, k1, zbV_some]
  have h9 : WI σ S B (zup τ8 9 1 (σ 9 1)) ∧ Wpr (zup τ8 9 1 (σ 9 1)) S ∧ Wol (zup τ8 9 1 (σ 9 1)) S := by
    have fo : Fo τ8 (zup τ8 9 1 (σ 9 1)) := ⟨fun k q1 q2 => zup_off q2, fun i hi => zup_of (by omega), fun x _ => zup_of (by omega)⟩
    exact ⟨h8.fo fo, fun j o hl => by rw [zup_off (by decide)]; exact h8p j o hl, fun j o hl => by rw [zup_off (by decide)]; exact h8l j o hl⟩
  obtain ⟨h9, h9p, h9l⟩ := h9
  have z9 : (zup τ8 9 1 (σ 9 1)) 9 1 = S 3 := by rw [zup_at]; exact hw.2.2.2.2.1
  generalize (zup τ8 9 1 (σ 9 1)) = τ9 at h9 h9p h9l z9 ⊢
  have wd := hw.2.2.2.2.1
  rcases g3 with w | w
  · rw [if_pos (by rw [wd]; exact w), g_bestReplan0 h9.1 w hm, zbI_some, if_pos rfl, zgd_pos (Or.inr rfl)]
    exact ⟨τ9, rfl, h9.1, h3, h9.2.1, h9p, h9l, z9, h9.2.2.2.trans hw.2.2.2.2.2⟩
  · obtain ⟨v2, v3⟩ := hO.2 w
    have hV := v2.vo hG
    obtain ⟨_, Q, _, _, q1, q2, q3⟩ := g_latenessShifted1 (by omega) h9.1 w
    obtain ⟨τ10, i1, i2, i3⟩ := t182 h9.2.1 h3 hG h9l hV q2 (M := B + 600) (by omega) q3
    have h10 := h9.fo i2.fo
    obtain ⟨τ11, Q', j1, j2, r1, r2, r3⟩ := g_latenessShifted1 (by omega) h10.1 w
    have h11 := h10.fr j2
    have hwp : Wpr τ11 Q := fun j o hl => by
      rw [j2 66 (by decide) (by decide) (by decide)]
      exact i3 j o ((q1.sta.live hG j o).mp hl)
    have e180 := t180_3 (h11.2.1.of q1.sta.stt hG h3) (q1.sta.stt.l3 hG h3) (q1.sta.good hG) hwp
    have eQ : ltS Q' 3 = ltS Q 3 := ltS_congr hG r1 q1 (fun j o hl => ShEq.uniq hV r2 q2 j o hl)
    obtain ⟨τ12, p14', b', u0, u1, u2, u3, u4, u5⟩ := w_anew hw hG w v3 (by omega) hm r (σ 9 1) (f1 (fun k a => if ((k % 4 : Nat) : Int) < rO S (k / 4) then fOv S r (k / 4) (k % 4) a else a) 12 (-1, ltS (mpS S r) 3)).2 (fA S (fOv S r) (-1, ltS (mpS S r) 3)).1 4 0 (-1) (ltS (mpS S (bst4 (fun r => ltS (mpS S r) 3) 3 1 0)) 3) τ11 p14 (by omega) (by omega) (Or.inr ⟨rfl, rfl⟩) h11
    rw [e12] at u1
    have eb : b' = bst4 (fun r => ltS (paS S m r) 3) 3 1 0 := by
      rcases u3 with z | z
      · omega
      · rw [if_pos rfl] at z
        exact z
    obtain ⟨τ13, y1, y2, y3⟩ := t184_i τ12
    obtain ⟨h13, h13p, h13l⟩ := u2.back hw y2 y3
    obtain ⟨τ14, t1, t2⟩ := g_bestReplan1 (by omega) h13.1 w hm
    have h14 := h13.fr t2
    have bb := bst4_ge (L := fun r => ltS (paS S m r) 3) 3 1 0 (by omega) (by omega) (by omega) (by omega)
    obtain ⟨stR, vR⟩ := paS_ok hG v3 (rule := bst4 (fun r => ltS (paS S m r) 3) 3 1 0) (moment := m) (by omega) (by omega)
    have hle := ltS_le (stR.sta.good hG) (stR.sta.stt.l3 hG h3) (B := B + 600) (by omega) vR
    rw [if_neg (by rw [wd]; omega), i1, zbV_some, j1, zbI_some, e180, zbI_some, if_pos eQ, u1, X186_348, if_neg (by decide), y1, zbV_some, t1, zbI_some, eb, show min (ltS (paS S m (bst4 (fun r => ltS (paS S m r) 3) 3 1 0)) 3) 999999 = ltS (paS S m (bst4 (fun r => ltS (paS S m r) 3) 3 1 0)) 3 by omega, if_pos rfl, zgd_pos (Or.inr rfl)]
    refine ⟨τ14, rfl, h14.1, h3, h14.2.1, fun j o hl => ?_, fun j o hl => ?_, ?_, h14.2.2.2.trans hw.2.2.2.2.2⟩
    · rw [t2 66 (by decide) (by decide) (by decide)]; exact h13p j o hl
    · rw [t2 66 (by decide) (by decide) (by decide)]; exact h13l j o hl
    · rw [t2 9 (by decide) (by decide) (by decide), y2 9 (by decide), u5, j2 9 (by decide) (by decide) (by decide), i2.1 9 (by decide)]; exact z9
end LAWW
