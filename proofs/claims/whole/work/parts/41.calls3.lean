/-! ===== 41: overtime, undo ===== -/
theorem f_overtime {σ τ : zSt} {S : Row} {c : Nat} {H : Nat → Row} {t : Nat} {T : Row} {B : Int} (h : RC σ S c H t T) (g : RM τ S c H t T) (a : RA S c H t T B) (j o : Int) : Both [3, 2] (zE 10 0 [some (zR 0), some (zI j), some (zI o), none] [] σ) (zE 80 0 [some (zR 9), some (zI j), some (zI o)] [] τ) σ τ S c H t T B := by
  have hG := a.1.1
  have g1 := hG.1.2.1
  have hGτ : Good (τ 65) := by rw [g.1]; exact hG
  rw [X10_0, s148 (by rw [h.fld.2.1]; omega), zbI_some, h.fld.2.1, X80_0, s45 hGτ, zbI_some, g.1]
  have hc : ((0 ≤ j ∧ j < S 1) ∧ 0 ≤ o ∧ o < σ 12 j.toNat) ↔ ((0 ≤ j ∧ j < S 1) ∧ 0 ≤ o ∧ o < rO S j.toNat) := by
    constructor
    · rintro ⟨q, r⟩
      have e : σ 12 j.toNat = rO S j.toNat := (h.1.2.1 j.toNat (by omega)).2.2
      rw [e] at r; exact ⟨q, r⟩
    · rintro ⟨q, r⟩
      have e : σ 12 j.toNat = rO S j.toNat := (h.1.2.1 j.toNat (by omega)).2.2
      rw [← e] at r; exact ⟨q, r⟩
  by_cases c1 : (0 ≤ j ∧ j < S 1) ∧ 0 ≤ o ∧ o < rO S j.toNat
  · rw [if_pos c1, if_pos (hc.mpr c1), if_neg i10, if_neg i10]
    obtain ⟨n, rfl⟩ : ∃ n : Nat, j = (n : Int) := ⟨j.toNat, by omega⟩
    obtain ⟨k, rfl⟩ : ∃ k : Nat, o = (k : Int) := ⟨o.toNat, by omega⟩
    rw [toNat_n] at c1
    have hl : Live S n k := ⟨c1.1.2, c1.2.2⟩
    have hn6 := hG.j6 hl.1
    have hk5 := hG.o5 hl
    have g5 := (hG.2.2.1 n k hl.1 hl.2).2
    have k1 : σ 14 (5 * n + k) = sU S (5 * n + k) := (h.1.2.2.1 (5 * n + k) (by omega)).2
    rw [s35 (by omega) (by omega), zbI_some, zgd_pos (by omega), toNat_n, k1, s44_1 hn6 hk5, zbI_some, g.1, X80_30, zup_at]
    by_cases c3 : sU S (5 * n + k) ≤ 1
    · rw [if_pos c3, if_pos (show sU S (5 * n + k) = 1 by omega)]
      exact bad3 g 1 2 rfl
    · rw [if_neg c3, if_neg (show ¬ sU S (5 * n + k) = 1 by omega), if_pos (Int.le_refl 0)]
      obtain ⟨σ1, e1, r1, fr1⟩ := s117 h a
      obtain ⟨τ1, e3, r3, n3, fr3⟩ := m_save (g.nine (i := 0) (v := 0) ⟨by decide, by decide⟩) a.2.1
      have k2 : σ1 14 (5 * n + k) = sU S (5 * n + k) := (r1.1.2.2.1 (5 * n + k) (by omega)).2
      have k4 : σ1 2 14 = S 4 := r1.fld.2.2.2.2
      rw [e1, zbV_some, zgd_pos (by omega), zgd_pos (by omega), zgd_pos (by omega), e3, zbV_some, s43 hn6 hk5, zbI_some]
      have ra := RA.push a (Int.le_refl _) (ovtS_ok (B := B) hG hl (by omega))
      have q1 : zE 44 0 [some (zR 9), some (zI (n : Int)), some (zI (k : Int)), some (zI 1)] [] (zset τ1 65 (ovtS S n k)) = zRI (sU S (5 * n + k) - 1) (zset τ1 65 (ovtS S n k)) := by
        rw [s44_1 hn6 hk5, zset_at]
        unfold sU ovtS
        rw [rset_of (by omega), rset_of (by omega), rset_eq rfl]
        rfl
      have b2 : (((23 + 4 * (5 * n + k) : Nat) : Int) + 1).toNat = 24 + 4 * (5 * n + k) := by omega
      have b3 : S (24 + 4 * (5 * n + k)) = sU S (5 * n + k) := rfl
      have b4 : rset S (24 + 4 * (5 * n + k)) (sU S (5 * n + k) - 1) 4 = S 4 := rset_of (by omega)
      have q2 : zset τ1 65 (rset (rset (rset S (24 + 4 * (5 * n + k)) (sU S (5 * n + k) - 1)) 4 (zw (S 4 + 3))) 3 0) = zset τ1 65 (ovtS S n k) := rfl
      refine Or.inl ⟨sU S (5 * n + k) - 1, zup (zup (zup σ1 14 (5 * n + k) (sU S (5 * n + k) - 1)) 2 14 (zw (S 4 + 3))) 2 11 0, zset τ1 65 (ovtS S n k), ovtS S n k, _, _, t, T, ?_, ?_, ?_, r1.main ra.2.2.1 (fun k hk => by rw [zup_off (by omega), zup_off (by omega), zup_off (by omega)]) ?_, r3.main, ra, ?_, ?_⟩
      · simp (disch := omega) only [toNat_n, zup_off, zup_at, k2, k4, zw_id (x := sU S (5 * n + k) - 1)]
      · simp (disch := omega) only [zw_id (x := ((23 + 4 * (5 * n + k) : Nat) : Int) + 1), zgd_pos, b2, zup_set, r3.1, b3, zw_id (x := sU S (5 * n + k) - 1), zset_at, zset_set, b4]
        rw [q2, q1, zbI_some]
      · rw [zset_ne _ _ (by decide), n3, zup_at]
      · obtain ⟨⟨h0, h1, h2, h3, h4⟩, hj', hi', hb', hp⟩ := r1.1
        refine ⟨⟨?_, ?_, ?_, ?_, ?_⟩, fun j' hj2 => ⟨?_, ?_, ?_⟩, fun i hi => ⟨?_, ?_⟩, fun b hb => ⟨?_, ?_, ?_⟩, fun q j o hl => ?_⟩
        · simp (disch := omega) only [shF, ovtS, zup_off, zup_of, rset_of]; exact h0
        · simp (disch := omega) only [shF, ovtS, zup_off, zup_of, rset_of]; exact h1
        · simp (disch := omega) only [shF, ovtS, zup_off, zup_of, rset_of]; exact h2
        · simp (disch := omega) only [shF, ovtS, zup_at, rset_eq]
        · simp (disch := omega) only [shF, ovtS, zup_of, zup_at, rset_of, rset_eq]
        · simp (disch := omega) only [shA, ovtS, rW, zup_off, rset_of]; exact (hj' j' hj2).1
        · simp (disch := omega) only [shA, ovtS, rD, zup_off, rset_of]; exact (hj' j' hj2).2.1
        · simp (disch := omega) only [shA, ovtS, rO, zup_off, rset_of]; exact (hj' j' hj2).2.2
        · simp (disch := omega) only [shA, ovtS, sM, zup_off, rset_of]; exact (hi' i hi).1
        · by_cases e : i = 5 * n + k
          · subst e
            show _ = ovtS S n k (24 + 4 * (5 * n + k))
            simp (disch := omega) only [shA, ovtS, zup_off, zup_at, rset_of, rset_eq]
          · simp (disch := omega) only [shA, ovtS, sU, zup_off, zup_of, rset_of]; exact (hi' i hi).2
        · simp (disch := omega) only [shA, ovtS, bM, zup_off, rset_of]; exact (hb' b hb).1
        · simp (disch := omega) only [shA, ovtS, bF, zup_off, rset_of]; exact (hb' b hb).2.1
        · simp (disch := omega) only [shA, ovtS, bL, zup_off, rset_of]; exact (hb' b hb).2.2
        · have q3 : ovtS S n k 3 = 0 := rset_eq rfl
          rw [q3] at q; cases q
      · exact ⟨(fr1 9 (by decide) (by decide)) ▸ (by rw [zup_off (by decide), zup_off (by decide), zup_off (by decide)]), fun k hk => by rw [zup_off (by omega), zup_off (by omega), zup_off (by omega)]; exact fr1 k (by omega) (by omega)⟩
      · exact (FM.nine.trans fr3).trans (FM.zset (by decide))
  · rw [if_neg c1, if_neg (fun q => c1 (hc.mp q)), if_pos rfl, if_pos rfl, X80_30, zup_at]
    exact bad3 g 0 3 rfl
theorem f_undo {σ τ : zSt} {S : Row} {c : Nat} {H : Nat → Row} {t : Nat} {T : Row} {B : Int} (h : RC σ S c H t T) (g : RM τ S c H t T) (a : RA S c H t T B) : Both [2] (zE 25 0 [some (zR 0)] [] σ) (zE 115 0 [some (zR 9)] [] τ) σ τ S c H t T B := by
  have a4 := a.2.1
  rw [X25_0, h.2.2.1]
  by_cases c1 : c = 0
  · rw [if_pos (by omega), X115_0, g.2.1, if_pos (by omega), X115_13, zup_at]
    exact bad3 g 0 2 rfl
  · rw [if_neg (by omega)]
    obtain ⟨σ1, e1, r1, f1, f2⟩ := s118 h a (by omega)
    obtain ⟨τ1, e2, r2, n2, f3⟩ := s115 g (by omega)
    rw [e1, zbV_some, r1.2.2.1, e2]
    refine Or.inl ⟨((c - 1 : Nat) : Int), σ1, τ1, _, _, _, t, T, rfl, rfl, n2, r1, r2, ⟨(a.2.2.1 (c - 1) (by omega)).req undS_req, by omega, fun i hi => a.2.2.1 i (by omega), a.2.2.2⟩, ⟨f1, f2⟩, f3⟩
