/-! ===== 51: the class's calls, each with what it answers and the row that it then tells of ===== -/
/-- the class tells of the row S, whatever is saved; all is fine up to B -/
def CR (σ : zSt) (S : Row) (B : Int) : Prop := ∃ (c : Nat) (H : Nat → Row) (t : Nat) (T : Row), RC σ S c H t T ∧ RA S c H t T B
theorem CR.up {σ : zSt} {S : Row} {B B' : Int} (h : CR σ S B) (hB : B ≤ B') : CR σ S B' := by
  obtain ⟨c, H, t, T, h1, h2⟩ := h
  exact ⟨c, H, t, T, h1, h2.up hB⟩
theorem CR.ok {σ : zSt} {S : Row} {B : Int} (h : CR σ S B) : Ok S B := by
  obtain ⟨c, H, t, T, h1, h2⟩ := h
  exact h2.1
theorem CR.sh {σ : zSt} {S : Row} {B : Int} (h : CR σ S B) : ShC (shF σ 0) (shA σ 0) S := by
  obtain ⟨c, H, t, T, h1, h2⟩ := h
  exact h1.1
/-- what the law's own steps leave as it is -/
def FL (σ σ' : zSt) : Prop := ∀ k : Nat, k ≠ 9 → k < 65 → σ' k = σ k
theorem FL.rf (σ : zSt) : FL σ σ := fun _ _ _ => rfl
theorem FL.trans {a b c : zSt} (h : FL a b) (h' : FL b c) : FL a c := fun k h1 h2 => (h' k h1 h2).trans (h k h1 h2)
theorem FL.zup {σ : zSt} {k i : Nat} {v : Int} (hk : 65 ≤ k ∨ k = 9) : FL σ (zup σ k i v) := fun k' h1 h2 => zup_off (by omega)
theorem CR.fl {σ σ' : zSt} {S : Row} {B : Int} (h : CR σ S B) (e : FL σ σ') : CR σ' S B := by
  obtain ⟨c, H, t, T, h1, h2⟩ := h
  exact ⟨c, H, t, T, h1.frame h2 (fun k hk => e k (by omega) (by omega)), h2⟩
theorem CR.fr3 {σ σ' : zSt} {S : Row} {B : Int} (h : CR σ S B) (e : Fr3 σ σ') : CR σ' S B := by
  obtain ⟨c, H, t, T, h1, h2⟩ := h
  exact ⟨c, H, t, T, h1.frame h2 (fun k hk => e k (by omega) (by omega) (by omega)), h2⟩
theorem g_addJob {σ : zSt} {S : Row} {B : Int} (h : CR σ S B) {w d : Int} (c1 : 1 ≤ w ∧ w ≤ 9) (c2 : 0 ≤ d ∧ d ≤ 999) (c3 : S 1 < 6) : ∃ σ', zE 1 0 [some (zR 0), some (zI w), some (zI d)] [] σ = zRI (S 1) σ' ∧ CR σ' (jobS S w d) B ∧ FC σ σ' := by
  obtain ⟨c, H, t, T, h, a⟩ := h
  have hG := a.1.1
  simp only [X1_0, s33, zbI_some, s150, h.fld.2.1, if_pos c1, if_pos c2, if_pos c3, if_neg i10]
  obtain ⟨σ1, e1, r1, fr1⟩ := s117 h a
  obtain ⟨σ2, e2, r2, fr2⟩ := s153 r1.1 hG c3 w d
  rw [e1, zbV_some, e2, zbI_some]
  have ra := RA.push a (Int.le_refl _) (jobS_ok (B := B) hG c1 c2 c3)
  exact ⟨σ2, rfl, ⟨_, _, t, T, r1.main ra.2.2.1 (fun k hk => fr2 k (by omega) (by omega)) r2, ra⟩, (fr2 9 (by decide) (by decide)).trans (fr1 9 (by decide) (by decide)), fun k hk => (fr2 k (by omega) (by omega)).trans (fr1 k (by omega) (by omega))⟩
theorem g_addOperation {σ : zSt} {S : Row} {B : Int} (h : CR σ S B) {n : Nat} {m u : Int} (c1 : (n : Int) < S 1) (c2 : 0 ≤ m ∧ m < S 0) (c3 : 1 ≤ u ∧ u ≤ 20) (c4 : rO S n < 5) : ∃ σ', zE 2 0 [some (zR 0), some (zI n), some (zI m), some (zI u)] [] σ = zRI (rO S n) σ' ∧ CR σ' (opS S n m u) B ∧ FC σ σ' := by
  obtain ⟨c, H, t, T, h, a⟩ := h
  have hG := a.1.1
  have g0 := hG.1.1
  have hn6 := hG.j6 c1
  have k1 : σ 12 n = rO S n := (h.1.2.1 n hn6).2.2
  rw [X2_0, s147, zbI_some, h.fld.2.1, if_pos (c := 0 ≤ (n : Int) ∧ (n : Int) < S 1) (by omega), if_neg i10, s146, zbI_some, h.fld.1, if_pos c2, if_neg i10, s33, zbI_some, if_pos c3, if_neg i10, s151 hn6, zbI_some, k1, if_pos c4, if_neg i10]
  obtain ⟨σ1, e1, r1, fr1⟩ := s117 h a
  obtain ⟨σ2, e2, r2, fr2⟩ := s154 r1.1 hG c1 c4 m u
  rw [e1, zbV_some, e2, zbI_some]
  have ra := RA.push a (Int.le_refl _) (opS_ok (B := B) hG c1 (m := m) (u := u) (by omega) c3 c4)
  exact ⟨σ2, rfl, ⟨_, _, t, T, r1.main ra.2.2.1 (fun k hk => fr2 k (by omega) (by omega)) r2, ra⟩, (fr2 9 (by decide) (by decide)).trans (fr1 9 (by decide) (by decide)), fun k hk => (fr2 k (by omega) (by omega)).trans (fr1 k (by omega) (by omega))⟩
theorem g_breakDown {σ : zSt} {S : Row} {B : Int} (h : CR σ S B) {m f l : Int} (c1 : 0 ≤ m ∧ m < S 0) (c2 : 0 ≤ f ∧ f ≤ 500) (c3 : 1 ≤ l ∧ l ≤ 50) (c4 : S 2 < 6) : ∃ σ', zE 3 0 [some (zR 0), some (zI m), some (zI f), some (zI l)] [] σ = zRI (S 2) σ' ∧ CR σ' (brkS S m f l) B ∧ FC σ σ' := by
  obtain ⟨c, H, t, T, h, a⟩ := h
  have hG := a.1.1
  have g0 := hG.1.1
  rw [X3_0, s146, zbI_some, h.fld.1, if_pos c1, if_neg i10, s33, zbI_some, if_pos c2, if_neg i10, s33, zbI_some, if_pos c3, if_neg i10, s152, zbI_some, h.fld.2.2.1, if_pos c4, if_neg i10]
  obtain ⟨σ1, e1, r1, fr1⟩ := s117 h a
  obtain ⟨σ2, e2, r2, fr2⟩ := s155 r1.1 hG c4 m f l
  rw [e1, zbV_some, e2, zbI_some]
  have ra := RA.push a (Int.le_refl _) (brkS_ok a.1 (m := m) (f := f) (l := l) (by omega) c2 c3 c4)
  exact ⟨σ2, rfl, ⟨_, _, t, T, r1.main ra.2.2.1 (fun k hk => fr2 k (by omega) (by omega)) r2, ra⟩, (fr2 9 (by decide) (by decide)).trans (fr1 9 (by decide) (by decide)), fun k hk => (fr2 k (by omega) (by omega)).trans (fr1 k (by omega) (by omega))⟩
theorem g_repaired {σ : zSt} {S : Row} {B : Int} (h : CR σ S B) (c1 : 0 < S 2) : ∃ σ', zE 4 0 [some (zR 0)] [] σ = zRI (S 2 - 1) σ' ∧ CR σ' (repS S) B ∧ FC σ σ' := by
  obtain ⟨c, H, t, T, h, a⟩ := h
  have hG := a.1.1
  have g2 := hG.1.2.2.1
  rw [X4_0, h.fld.2.2.1, if_neg (show ¬ S 2 = 0 by omega)]
  obtain ⟨σ1, e1, r1, fr1⟩ := s117 h a
  rw [e1, zbV_some, zup_at, r1.fld.2.2.1, zw_id (by omega) (by omega)]
  have ra := RA.push a (Int.le_refl _) (repS_ok a.1 (by omega))
  have lo : ∀ k, k ≠ 2 → repS S k = S k := fun k hk => rset_of hk
  have sh : ShC (shF (zup σ1 2 7 (S 2 - 1)) 0) (shA (zup σ1 2 7 (S 2 - 1)) 0) (repS S) := by
    obtain ⟨⟨h0, h1, h2, h3, h4⟩, hj', hi', hb', hp⟩ := r1.1
    refine ⟨⟨?_, ?_, ?_, ?_, ?_⟩, fun j' hj2 => ⟨?_, ?_, ?_⟩, fun i hi => ⟨?_, ?_⟩, fun b hb => ⟨?_, ?_, ?_⟩, fun q j o hl => ?_⟩
    · simp (disch := omega) only [shF, repS, zup_of, rset_of]; exact h0
    · simp (disch := omega) only [shF, repS, zup_of, rset_of]; exact h1
    · simp (disch := omega) only [shF, repS, zup_at, rset_eq]
    · simp (disch := omega) only [shF, repS, zup_of, rset_of]; exact h3
    · simp (disch := omega) only [shF, repS, zup_of, rset_of]; exact h4
    · simp (disch := omega) only [shA, repS, rW, zup_off, rset_of]; exact (hj' j' hj2).1
    · simp (disch := omega) only [shA, repS, rD, zup_off, rset_of]; exact (hj' j' hj2).2.1
    · simp (disch := omega) only [shA, repS, rO, zup_off, rset_of]; exact (hj' j' hj2).2.2
    · simp (disch := omega) only [shA, repS, sM, zup_off, rset_of]; exact (hi' i hi).1
    · simp (disch := omega) only [shA, repS, sU, zup_off, rset_of]; exact (hi' i hi).2
    · simp (disch := omega) only [shA, repS, bM, zup_off, rset_of]; exact (hb' b hb).1
    · simp (disch := omega) only [shA, repS, bF, zup_off, rset_of]; exact (hb' b hb).2.1
    · simp (disch := omega) only [shA, repS, bL, zup_off, rset_of]; exact (hb' b hb).2.2
    · rw [lo 3 (by omega)] at q
      have hl2 : Live S j o := by
        obtain ⟨x1, x2⟩ := hl
        rw [lo 1 (by omega)] at x1
        unfold rO at x2
        rw [lo _ (by omega)] at x2
        exact ⟨x1, x2⟩
      obtain ⟨y1, y2⟩ := hp q j o hl2
      unfold sL sP
      rw [lo _ (by omega), lo _ (by omega)]
      simp (disch := omega) only [shA, zup_off]
      exact ⟨y1, y2⟩
  exact ⟨_, rfl, ⟨_, _, t, T, r1.main ra.2.2.1 (fun k hk => zup_off (by omega)) sh, ra⟩, (zup_off (by decide)).trans (fr1 9 (by decide) (by decide)), fun k hk => (zup_off (by omega)).trans (fr1 k (by omega) (by omega))⟩
theorem g_bargain {σ : zSt} {S : Row} {B : Int} (h : CR σ S B) {n : Nat} {x : Int} (c1 : (n : Int) < S 1) (c2 : 1 ≤ x ∧ x ≤ 99) (c3 : rD S n + x ≤ 999) : ∃ σ', zE 9 0 [some (zR 0), some (zI n), some (zI x)] [] σ = zRI (rD S n + x) σ' ∧ CR σ' (barS S n x) B ∧ FC σ σ' := by
  obtain ⟨c, H, t, T, h, a⟩ := h
  have hG := a.1.1
  have hn6 := hG.j6 c1
  have k1 : σ 11 n = rD S n := (h.1.2.1 n hn6).2.1
  have g9 := (hG.2.1 n c1).2.1
  rw [X9_0, s147, zbI_some, h.fld.2.1, if_pos (c := 0 ≤ (n : Int) ∧ (n : Int) < S 1) (by omega), if_neg i10, s33, zbI_some, if_pos c2, if_neg i10, zgd_pos (by omega), toNat_n, k1, zw_id (x := rD S n + x) (by omega) (by omega), if_pos c3]
  obtain ⟨σ1, e1, r1, fr1⟩ := s117 h a
  have k2 : σ1 11 n = rD S n := (r1.1.2.1 n hn6).2.1
  have k3 : σ1 10 n = rW S n := (r1.1.2.1 n hn6).1
  have k4 : σ1 2 14 = S 4 := r1.fld.2.2.2.2
  rw [e1, zbV_some, zgd_pos (by omega), zgd_pos (by omega), zgd_pos (by omega), zgd_pos (by omega)]
  have ra := RA.push a (Int.le_refl _) (barS_ok a.1 c1 (x := x) (by omega) c3)
  refine ⟨zup (zup σ1 11 n (rD S n + x)) 2 14 (zw (S 4 + zw (rW S n * x))), ?_, ⟨_, _, t, T, r1.main ra.2.2.1 (fun k hk => by rw [zup_off (by omega), zup_off (by omega)]) ?_, ra⟩, ?_⟩
  · simp (disch := omega) only [toNat_n, zup_off, zup_at, k2, k3, k4, zw_id (x := rD S n + x)]
  · have hc : zw (rW S n * x) = zw (x * rW S n) := by rw [Int.mul_comm]
    rw [hc]
    have lo : ∀ k, k ≠ 6 + 3 * n → k ≠ 4 → barS S n x k = S k := fun k q1 q2 => by simp (disch := omega) only [barS, rset_of]
    obtain ⟨⟨h0, h1, h2, h3, h4⟩, hj', hi', hb', hp⟩ := r1.1
    refine ⟨⟨?_, ?_, ?_, ?_, ?_⟩, fun j' hj2 => ⟨?_, ?_, ?_⟩, fun i hi => ⟨?_, ?_⟩, fun b hb => ⟨?_, ?_, ?_⟩, fun q j o hl => ?_⟩
    · simp (disch := omega) only [shF, barS, zup_off, zup_of, rset_of]; exact h0
    · simp (disch := omega) only [shF, barS, zup_off, zup_of, rset_of]; exact h1
    · simp (disch := omega) only [shF, barS, zup_off, zup_of, rset_of]; exact h2
    · simp (disch := omega) only [shF, barS, zup_off, zup_of, rset_of]; exact h3
    · simp (disch := omega) only [shF, barS, zup_at, rset_eq]
    · simp (disch := omega) only [shA, barS, rW, zup_off, rset_of]; exact (hj' j' hj2).1
    · by_cases e : j' = n
      · subst e; simp (disch := omega) only [shA, barS, rD, zup_off, zup_at, rset_of, rset_eq]
      · simp (disch := omega) only [shA, barS, rD, zup_off, zup_of, rset_of]; exact (hj' j' hj2).2.1
    · simp (disch := omega) only [shA, barS, rO, zup_off, rset_of]; exact (hj' j' hj2).2.2
    · simp (disch := omega) only [shA, barS, sM, zup_off, rset_of]; exact (hi' i hi).1
    · simp (disch := omega) only [shA, barS, sU, zup_off, rset_of]; exact (hi' i hi).2
    · simp (disch := omega) only [shA, barS, bM, zup_off, rset_of]; exact (hb' b hb).1
    · simp (disch := omega) only [shA, barS, bF, zup_off, rset_of]; exact (hb' b hb).2.1
    · simp (disch := omega) only [shA, barS, bL, zup_off, rset_of]; exact (hb' b hb).2.2
    · rw [lo 3 (by omega) (by omega)] at q
      have hl2 : Live S j o := by
        obtain ⟨x1, x2⟩ := hl
        rw [lo 1 (by omega) (by omega)] at x1
        unfold rO at x2
        rw [lo _ (by omega) (by omega)] at x2
        exact ⟨x1, x2⟩
      obtain ⟨y1, y2⟩ := hp q j o hl2
      unfold sL sP
      rw [lo _ (by omega) (by omega), lo _ (by omega) (by omega)]
      simp (disch := omega) only [shA, zup_off]
      exact ⟨y1, y2⟩
  · exact ⟨(fr1 9 (by decide) (by decide)) ▸ (by rw [zup_off (by decide), zup_off (by decide)]), fun k hk => by rw [zup_off (by omega), zup_off (by omega)]; exact fr1 k (by omega) (by omega)⟩
theorem g_overtime {σ : zSt} {S : Row} {B : Int} (h : CR σ S B) {n k : Nat} (hl : Live S n k) (c3 : 1 < sU S (5 * n + k)) : ∃ σ', zE 10 0 [some (zR 0), some (zI n), some (zI k), none] [] σ = zRI (sU S (5 * n + k) - 1) σ' ∧ CR σ' (ovtS S n k) B ∧ FC σ σ' := by
  obtain ⟨c, H, t, T, h, a⟩ := h
  have hG := a.1.1
  have g1 := hG.1.2.1
  have hn6 := hG.j6 hl.1
  have hk5 := hG.o5 hl
  have g5 := (hG.2.2.1 n k hl.1 hl.2).2
  have k1 : σ 14 (5 * n + k) = sU S (5 * n + k) := (h.1.2.2.1 (5 * n + k) (by omega)).2
  have k0 : σ 12 n = rO S n := (h.1.2.1 n hn6).2.2
  have hl1 := hl.1
  have hl2 := hl.2
  rw [X10_0, s148 (by rw [h.fld.2.1]; omega), zbI_some, h.fld.2.1, toNat_n, k0, if_pos (c := (0 ≤ (n : Int) ∧ (n : Int) < S 1) ∧ 0 ≤ (k : Int) ∧ (k : Int) < rO S n) (by omega), if_neg i10, s35 (by omega) (by omega), zbI_some, zgd_pos (by omega), toNat_n, k1, if_neg (show ¬ sU S (5 * n + k) ≤ 1 by omega)]
  obtain ⟨σ1, e1, r1, fr1⟩ := s117 h a
  have k2 : σ1 14 (5 * n + k) = sU S (5 * n + k) := (r1.1.2.2.1 (5 * n + k) (by omega)).2
  have k4 : σ1 2 14 = S 4 := r1.fld.2.2.2.2
  rw [e1, zbV_some, zgd_pos (by omega), zgd_pos (by omega), zgd_pos (by omega)]
  have ra := RA.push a (Int.le_refl _) (ovtS_ok (B := B) hG hl c3)
  refine ⟨zup (zup (zup σ1 14 (5 * n + k) (sU S (5 * n + k) - 1)) 2 14 (zw (S 4 + 3))) 2 11 0, ?_, ⟨_, _, t, T, r1.main ra.2.2.1 (fun k hk => by rw [zup_off (by omega), zup_off (by omega), zup_off (by omega)]) ?_, ra⟩, ?_⟩
  · simp (disch := omega) only [toNat_n, zup_off, zup_at, k2, k4, zw_id (x := sU S (5 * n + k) - 1)]
  · obtain ⟨⟨h0, h1, h2, h3, h4⟩, hj', hi', hb', hp⟩ := r1.1
    refine ⟨⟨?_, ?_, ?_, ?_, ?_⟩, fun j' hj2 => ⟨?_, ?_, ?_⟩, fun i hi => ⟨?_, ?_⟩, fun b hb => ⟨?_, ?_, ?_⟩, fun q j o hl => ?_⟩
    · simp (disch := omega) only [shF, ovtS, zup_off, zup_of, rset_of]; exact h0
    · simp (disch := omega) only [shF, ovtS, zup_off, zup_of, rset_of]; exact h1
    · simp (disch := omega) only [shF, ovtS, zup_off, zup_of, rset_of]; exact h2
    · simp (disch := omega) only [shF, ovtS, zup_at, rset_eq]
    · simp (disch := omega) only [shF, ovtS, zup_of, zup_at, rset_of, rset_eq]
    · simp (disch := omega) only [shA, ovtS, rW, zup_off, rset_of]; exact (hj' j' hj2).1
    · simp (disch := omega) only [shA, ovtS, rD, zup_off, rset_of]; exact (hj' j' hj2).2.1
    · simp (disch := omega) only [shA, ovtS, rO, zup_off, rset_of]; exact (hj' j' hj2).2.2
    · simp (disch := omega) only [shA, ovtS, sM, zup_off, rset_of]; exact (hi' i hi).1
    · by_cases e : i = 5 * n + k
      · subst e
        show _ = ovtS S n k (24 + 4 * (5 * n + k))
        simp (disch := omega) only [shA, ovtS, zup_off, zup_at, rset_of, rset_eq]
      · simp (disch := omega) only [shA, ovtS, sU, zup_off, zup_of, rset_of]; exact (hi' i hi).2
    · simp (disch := omega) only [shA, ovtS, bM, zup_off, rset_of]; exact (hb' b hb).1
    · simp (disch := omega) only [shA, ovtS, bF, zup_off, rset_of]; exact (hb' b hb).2.1
    · simp (disch := omega) only [shA, ovtS, bL, zup_off, rset_of]; exact (hb' b hb).2.2
    · have q3 : ovtS S n k 3 = 0 := rset_eq rfl
      rw [q3] at q; cases q
  · exact ⟨(fr1 9 (by decide) (by decide)) ▸ (by rw [zup_off (by decide), zup_off (by decide), zup_off (by decide)]), fun k hk => by rw [zup_off (by omega), zup_off (by omega), zup_off (by omega)]; exact fr1 k (by omega) (by omega)⟩
theorem g_plan {σ : zSt} {S : Row} {B : Int} (hB : 1150 ≤ B) (h : CR σ S B) {r : Int} (hr : 0 ≤ r ∧ r ≤ 3) : ∃ σ', zE 5 0 [some (zR 0), some (zI r)] [] σ = zRI (ltS (mpS S r) 3) σ' ∧ CR σ' (mpS S r) B ∧ FC σ σ' := by
  obtain ⟨c, H, t, T, h, a⟩ := h
  have hG := a.1.1
  rw [X5_0, s34, zbI_some, if_pos hr, if_neg i10]
  obtain ⟨σ1, e1, r1, fr1⟩ := s117 h a
  obtain ⟨σ2, e2, r2, fr2⟩ := s30 r1.1 hG r
  rw [e1, zbV_some, e2, zbI_some]
  have ra := RA.push a (Int.le_refl _) (mpS_ok (S := S) (rule := r) hG hB)
  exact ⟨σ2, rfl, ⟨_, _, t, T, r1.main ra.2.2.1 (fun k hk => fr2 k (by omega) (by omega) (by omega) (by omega) (by omega)) r2, ra⟩, (fr2 9 (by decide) (by decide) (by decide) (by decide) (by decide)).trans (fr1 9 (by decide) (by decide)), fun k hk => (fr2 k (by omega) (by omega) (by omega) (by omega) (by omega)).trans (fr1 k (by omega) (by omega))⟩
/-- the shifted plan of S -/
def ShQ (S Q : Row) (B : Int) : Prop := StaP S Q ∧ ShEq S (fun j o => sP Q (5 * j + o)) ∧ ∀ j o, Live S j o → sP Q (5 * j + o) ≤ B
theorem g_shift {σ : zSt} {S : Row} {B : Int} (hB : 550 ≤ B ∧ B ≤ 700000) (h : CR σ S B) (c1 : S 3 = 1) : ∃ σ' Q, zE 6 0 [some (zR 0)] [] σ = zRI (ltS Q 3) σ' ∧ CR σ' Q (B + 600) ∧ FC σ σ' ∧ ShQ S Q (B + 600) := by
  obtain ⟨c, H, t, T, h, a⟩ := h
  have hG := a.1.1
  rw [X6_0, h.fld.2.2.2.1, if_neg (show ¬ S 3 = 0 by omega)]
  obtain ⟨v2, v3⟩ := a.1.2 c1
  have hV := v2.vo hG
  obtain ⟨σ1, e1, r1, fr1⟩ := s117 h a
  obtain ⟨σ2, Q, e2, fr2, hD, st, hpb, hq, hall⟩ := s139 r1.cs hG hV hB (fun j o hl => (r1.1.2.2.2.2 c1 j o hl).1)
  have hM : ∀ j o, Live S j o → sP Q (5 * j + o) ≤ B + 600 := fun j o hl => (hpb j o ((st.sta.live hG j o).mpr hl)).2
  obtain ⟨σ3, e5, sh, fr5⟩ := take19 r1.1 hG c1 fr2 st (fun j o hl => (hD.1 j (by rw [st.sta.k1]; exact hl.1)).2 o (by rw [hall j (nJ_lt.mpr hl.1)]; exact nO_lt.mpr hl.2))
  rw [e1, zbV_some, e2, zbV_some, e5]
  have ok : Ok Q (B + 600) := ⟨st.sta.good hG, fun _ => ⟨(v2.stap hG st).up (by omega), sh_val hG hV st hq (fun _ _ _ => rfl) hM⟩⟩
  have ra := RA.push a (B' := B + 600) (by omega) ok
  exact ⟨σ3, Q, rfl, ⟨_, _, t, T, r1.main ra.2.2.1 (fun k hk => fr5 k (by omega) (by omega) (by omega) (by omega)) sh, ra⟩, ⟨(fr5 9 (by decide) (by decide) (by decide) (by decide)).trans (fr1 9 (by decide) (by decide)), fun k hk => (fr5 k (by omega) (by omega) (by omega) (by omega)).trans (fr1 k (by omega) (by omega))⟩, st, hq, hM⟩
theorem g_replan {σ : zSt} {S : Row} {B : Int} (hB : 999 ≤ B ∧ B ≤ 700000) (h : CR σ S B) (c1 : S 3 = 1) {m r : Int} (c0 : 0 ≤ m ∧ m ≤ 999) (c2 : 0 ≤ r ∧ r ≤ 3) : ∃ σ', zE 7 0 [some (zR 0), some (zI m), some (zI r)] [] σ = zRI (ltS (paS S m r) 3) σ' ∧ CR σ' (paS S m r) (B + 600) ∧ FC σ σ' := by
  obtain ⟨c, H, t, T, h, a⟩ := h
  have hG := a.1.1
  rw [X7_0, s33, zbI_some, if_pos c0, if_neg i10, s34, zbI_some, if_pos c2, if_neg i10, h.fld.2.2.2.1, if_neg (show ¬ S 3 = 0 by omega)]
  obtain ⟨v2, v3⟩ := a.1.2 c1
  obtain ⟨σ1, e1, r1, fr1⟩ := s117 h a
  obtain ⟨σ2, e2, fr2, hD⟩ := s135 (rule := r) r1.cs hG v3.pp (moment := m) (by omega) (by omega) (fun j o hl => (r1.1.2.2.2.2 c1 j o hl).2)
  obtain ⟨stR, vR⟩ := paS_ok hG v3 (rule := r) (moment := m) (by omega) (by omega)
  have hpb := kpS_pb hG v3.pp m (by omega)
  have stk := kpS_staP S m
  obtain ⟨_, _, hall⟩ := fillM_ok (stk.sta.good hG) hpb (rule := r) (moment := m) (by omega) (by omega)
  obtain ⟨σ3, e5, sh, fr5⟩ := take19 r1.1 hG c1 fr2 stR (fun j o hl => by
    refine (hD.1 j (by rw [stR.sta.k1]; exact hl.1)).2 o ?_
    have q := hall j (by rw [stk.sta.nj]; exact nJ_lt.mpr hl.1)
    rw [stk.sta.no (hG.j6 hl.1)] at q
    show o < nxt (fillM r m 30 (kpS S m)) j
    rw [q]; exact nO_lt.mpr hl.2)
  rw [e1, zbV_some, e2, zbV_some, e5]
  have ok : Ok (paS S m r) (B + 600) := ⟨stR.sta.good hG, fun _ => ⟨(v2.stap hG stR).up (by omega), vR⟩⟩
  have ra := RA.push a (B' := B + 600) (by omega) ok
  exact ⟨σ3, rfl, ⟨_, _, t, T, r1.main ra.2.2.1 (fun k hk => fr5 k (by omega) (by omega) (by omega) (by omega)) sh, ra⟩, (fr5 9 (by decide) (by decide) (by decide) (by decide)).trans (fr1 9 (by decide) (by decide)), fun k hk => (fr5 k (by omega) (by omega) (by omega) (by omega)).trans (fr1 k (by omega) (by omega))⟩
