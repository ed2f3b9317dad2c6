/-! ===== 40: repaired, bargain, overtime, undo ===== -/
theorem f_repaired {σ τ : zSt} {S : Row} {c : Nat} {H : Nat → Row} {t : Nat} {T : Row} {B : Int} (h : RC σ S c H t T) (g : RM τ S c H t T) (a : RA S c H t T B) : Both [2] (zE 4 0 [some (zR 0)] [] σ) (zE 57 0 [some (zR 9)] [] τ) σ τ S c H t T B := by
  have hG := a.1.1
  have g2 := hG.1.2.2.1
  rw [X4_0, h.fld.2.2.1, X57_0, g.1, X57_15, zup_at]
  by_cases c1 : S 2 = 0
  · rw [if_pos c1, if_pos (show S 2 ≤ 0 by omega)]
    exact bad3 g 0 2 rfl
  · rw [if_neg c1, if_neg (show ¬ S 2 ≤ 0 by omega), if_pos (Int.le_refl 0)]
    obtain ⟨σ1, e1, r1, fr1⟩ := s117 h a
    obtain ⟨τ1, e3, r3, n3, fr3⟩ := m_save (g.nine (i := 0) (v := 0) ⟨by decide, by decide⟩) a.2.1
    rw [e1, zbV_some, e3, zbV_some, zup_at, zup_at, r1.fld.2.2.1, r3.1, zw_id (by omega) (by omega)]
    have ra := RA.push a (Int.le_refl _) (repS_ok a.1 (by omega))
    have q1 : zup τ1 65 2 (S 2 - 1) = zset τ1 65 (repS S) := by
      rw [zup_set, r3.1]; rfl
    have lo : ∀ k, k ≠ 2 → repS S k = S k := fun k hk => rset_of hk
    have sh : ShC (shF (zup σ1 2 7 (S 2 - 1)) 0) (shA (zup σ1 2 7 (S 2 - 1)) 0) (repS S) := by
      obtain ⟨⟨h0, h1, h2, h3, h4⟩, hj', hi', hb', hp⟩ := r1.1
      refine ⟨⟨?_, ?_, ?_, ?_, ?_⟩, fun j' hj2 => ⟨?_, ?_, ?_⟩, fun i hi => ⟨?_, ?_⟩, fun b hb => ⟨?_, ?_, ?_⟩, fun q j o hl => ?_⟩
      · simp (disch := omega) only [shF, repS, zup_of, rset_of]; exact h0
      · simp (disch := omega) only [shF, repS, zup_of, rset_of]; exact h1
      · simp (disch := omega) only [shF, repS, zup_at, rset_eq]
      · simp (disch := omega) only [shF, repS, zup_of, rset_of]; exact h3
      · simp (disch := omega) only [shF, repS, zup_of, rset_of]; exact h4
      · simp (disch := omega) only [shA, repS, rW, zup_off, rset_of]; exact (hj' j' hj2).1
      · simp (disch := omega) only [shA, repS, rD, zup_off, rset_of]; exact (hj' j' hj2).2.1
      · simp (disch := omega) only [shA, repS, rO, zup_off, rset_of]; exact (hj' j' hj2).2.2
      · simp (disch := omega) only [shA, repS, sM, zup_off, rset_of]; exact (hi' i hi).1
      · simp (disch := omega) only [shA, repS, sU, zup_off, rset_of]; exact (hi' i hi).2
      · simp (disch := omega) only [shA, repS, bM, zup_off, rset_of]; exact (hb' b hb).1
      · simp (disch := omega) only [shA, repS, bF, zup_off, rset_of]; exact (hb' b hb).2.1
      · simp (disch := omega) only [shA, repS, bL, zup_off, rset_of]; exact (hb' b hb).2.2
      · rw [lo 3 (by omega)] at q
        have hl2 : Live S j o := by
          obtain ⟨x1, x2⟩ := hl
          rw [lo 1 (by omega)] at x1
          unfold rO at x2
          rw [lo _ (by omega)] at x2
          exact ⟨x1, x2⟩
        obtain ⟨y1, y2⟩ := hp q j o hl2
        unfold sL sP
        rw [lo _ (by omega), lo _ (by omega)]
        simp (disch := omega) only [shA, zup_off]
        exact ⟨y1, y2⟩
    rw [q1]
    refine Or.inl ⟨S 2 - 1, _, _, repS S, _, _, t, T, rfl, rfl, ?_, r1.main ra.2.2.1 (fun k hk => zup_off (by omega)) sh, r3.main, ra, ?_, ?_⟩
    · rw [zset_ne _ _ (by decide), n3, zup_at]
    · exact ⟨(zup_off (by decide)).trans (fr1 9 (by decide) (by decide)), fun k hk => (zup_off (by omega)).trans (fr1 k (by omega) (by omega))⟩
    · exact (FM.nine.trans fr3).trans (FM.zset (by decide))
theorem f_bargain {σ τ : zSt} {S : Row} {c : Nat} {H : Nat → Row} {t : Nat} {T : Row} {B : Int} (h : RC σ S c H t T) (g : RM τ S c H t T) (a : RA S c H t T B) (j x : Int) : Both [3, 1, 2] (zE 9 0 [some (zR 0), some (zI j), some (zI x)] [] σ) (zE 79 0 [some (zR 9), some (zI j), some (zI x)] [] τ) σ τ S c H t T B := by
  have hG := a.1.1
  have g1 := hG.1.2.1
  have hGτ : Good (τ 65) := by rw [g.1]; exact hG
  rw [X9_0, s147, zbI_some, h.fld.2.1, X79_0, s41 hGτ, zbI_some, g.1]
  by_cases c1 : 0 ≤ j ∧ j < S 1
  · obtain ⟨n, rfl⟩ : ∃ n : Nat, j = (n : Int) := ⟨j.toNat, by omega⟩
    have hn6 := hG.j6 c1.2
    rw [if_pos c1, if_neg i10, if_neg i10, s33, zbI_some, s38, zbI_some]
    by_cases c2 : 1 ≤ x ∧ x ≤ 99
    · have k1 : σ 11 n = rD S n := (h.1.2.1 n hn6).2.1
      have g9 := (hG.2.1 n c1.2).2.1
      rw [if_pos c2, if_neg i10, if_neg i10, zgd_pos (by omega), toNat_n, k1, s42_1 hn6, zbI_some, g.1, X79_46, zup_at, zw_id (x := rD S n + x) (by omega) (by omega)]
      by_cases c3 : rD S n + x ≤ 999
      · rw [if_pos c3, if_pos c3, if_pos (Int.le_refl 0)]
        obtain ⟨σ1, e1, r1, fr1⟩ := s117 h a
        obtain ⟨τ1, e3, r3, n3, fr3⟩ := m_save (g.nine (i := 0) (v := 0) ⟨by decide, by decide⟩) a.2.1
        have k2 : σ1 11 n = rD S n := (r1.1.2.1 n hn6).2.1
        have k3 : σ1 10 n = rW S n := (r1.1.2.1 n hn6).1
        have k4 : σ1 2 14 = S 4 := r1.fld.2.2.2.2
        rw [e1, zbV_some, zgd_pos (by omega), zgd_pos (by omega), zgd_pos (by omega), zgd_pos (by omega), e3, zbV_some]
        have ra := RA.push a (Int.le_refl _) (barS_ok a.1 c1.2 (x := x) (by omega) c3)
        have q0 : zE 42 0 [some (zR 9), some (zI (n : Int)), some (zI 0)] [] (zset τ1 65 (rset S (6 + 3 * n) (rD S n + x))) = zRI (rW S n) (zset τ1 65 (rset S (6 + 3 * n) (rD S n + x))) := by
          rw [s42_0 hn6, zset_at]
          unfold rW
          rw [rset_of (by omega)]
        have q1 : zE 42 0 [some (zR 9), some (zI (n : Int)), some (zI 1)] [] (zset τ1 65 (barS S n x)) = zRI (rD S n + x) (zset τ1 65 (barS S n x)) := by
          rw [s42_1 hn6, zset_at]
          unfold rD barS
          rw [rset_of (by omega), rset_eq rfl]
          rfl
        have b2 : ((5 : Int) + 3 * (n : Int) + 1).toNat = 6 + 3 * n := by omega
        have b3 : S (6 + 3 * n) = rD S n := rfl
        have b4 : rset S (6 + 3 * n) (rD S n + x) 4 = S 4 := rset_of (by omega)
        have q2 : zset τ1 65 (rset (rset S (6 + 3 * n) (rD S n + x)) 4 (zw (S 4 + zw (x * rW S n)))) = zset τ1 65 (barS S n x) := rfl
        refine Or.inl ⟨rD S n + x, zup (zup σ1 11 n (rD S n + x)) 2 14 (zw (S 4 + zw (rW S n * x))), zset τ1 65 (barS S n x), barS S n x, _, _, t, T, ?_, ?_, ?_, r1.main ra.2.2.1 (fun k hk => by rw [zup_off (by omega), zup_off (by omega)]) ?_, r3.main, ra, ?_, ?_⟩
        · simp (disch := omega) only [toNat_n, zup_off, zup_at, k2, k3, k4, zw_id (x := rD S n + x)]
        · simp (disch := omega) only [zw_id (x := 3 * (n : Int)), zw_id (x := 5 + 3 * (n : Int)), zw_id (x := 5 + 3 * (n : Int) + 1), zgd_pos, b2, zup_set, r3.1, b3, zw_id (x := rD S n + x), q0, zbI_some, zset_at, zset_set, b4]
          rw [q2, q1, zbI_some]
        · rw [zset_ne _ _ (by decide), n3, zup_at]
        · have hc : zw (rW S n * x) = zw (x * rW S n) := by rw [Int.mul_comm]
          rw [hc]
          have lo : ∀ k, k ≠ 6 + 3 * n → k ≠ 4 → barS S n x k = S k := fun k q1 q2 => by simp (disch := omega) only [barS, rset_of]
          obtain ⟨⟨h0, h1, h2, h3, h4⟩, hj', hi', hb', hp⟩ := r1.1
          refine ⟨⟨?_, ?_, ?_, ?_, ?_⟩, fun j' hj2 => ⟨?_, ?_, ?_⟩, fun i hi => ⟨?_, ?_⟩, fun b hb => ⟨?_, ?_, ?_⟩, fun q j o hl => ?_⟩
          · simp (disch := omega) only [shF, barS, zup_off, zup_of, rset_of]; exact h0
          · simp (disch := omega) only [shF, barS, zup_off, zup_of, rset_of]; exact h1
          · simp (disch := omega) only [shF, barS, zup_off, zup_of, rset_of]; exact h2
          · simp (disch := omega) only [shF, barS, zup_off, zup_of, rset_of]; exact h3
          · simp (disch := omega) only [shF, barS, zup_at, rset_eq]
          · simp (disch := omega) only [shA, barS, rW, zup_off, rset_of]; exact (hj' j' hj2).1
          · by_cases e : j' = n
            · subst e; simp (disch := omega) only [shA, barS, rD, zup_off, zup_at, rset_of, rset_eq]
            · simp (disch := omega) only [shA, barS, rD, zup_off, zup_of, rset_of]; exact (hj' j' hj2).2.1
          · simp (disch := omega) only [shA, barS, rO, zup_off, rset_of]; exact (hj' j' hj2).2.2
          · simp (disch := omega) only [shA, barS, sM, zup_off, rset_of]; exact (hi' i hi).1
          · simp (disch := omega) only [shA, barS, sU, zup_off, rset_of]; exact (hi' i hi).2
          · simp (disch := omega) only [shA, barS, bM, zup_off, rset_of]; exact (hb' b hb).1
          · simp (disch := omega) only [shA, barS, bF, zup_off, rset_of]; exact (hb' b hb).2.1
          · simp (disch := omega) only [shA, barS, bL, zup_off, rset_of]; exact (hb' b hb).2.2
          · rw [lo 3 (by omega) (by omega)] at q
            have hl2 : Live S j o := by
              obtain ⟨x1, x2⟩ := hl
              rw [lo 1 (by omega) (by omega)] at x1
              unfold rO at x2
              rw [lo _ (by omega) (by omega)] at x2
              exact ⟨x1, x2⟩
            obtain ⟨y1, y2⟩ := hp q j o hl2
            unfold sL sP
            rw [lo _ (by omega) (by omega), lo _ (by omega) (by omega)]
            simp (disch := omega) only [shA, zup_off]
            exact ⟨y1, y2⟩
        · exact ⟨(fr1 9 (by decide) (by decide)) ▸ (by rw [zup_off (by decide), zup_off (by decide)]), fun k hk => by rw [zup_off (by omega), zup_off (by omega)]; exact fr1 k (by omega) (by omega)⟩
        · exact (FM.nine.trans fr3).trans (FM.zset (by decide))
      · rw [if_neg c3, if_neg c3]
        exact bad3 g 2 2 rfl
    · rw [if_neg c2, if_pos rfl, if_pos rfl, X79_46, zup_at]
      exact bad3 g 1 1 rfl
  · rw [if_neg c1, if_pos rfl, if_pos rfl, X79_46, zup_at]
    exact bad3 g 0 3 rfl
