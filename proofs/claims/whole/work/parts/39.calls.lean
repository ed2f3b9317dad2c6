/-! ===== 39: begin, addJob, addOperation, breakDown, repaired, bargain, overtime, undo ===== -/
theorem i10 : ¬ ((1 : Int) = 0) := by decide
theorem m_save {τ : zSt} {S : Row} {c : Nat} {H : Nat → Row} {t : Nat} {T : Row} (g : RM τ S c H t T) (hc : c ≤ 4) : ∃ τ', zE 39 0 [some (zR 9), none] [] τ = zRV τ' ∧ RM τ' S (pshC c) (pshH c H S) t T ∧ τ' 9 0 = τ 9 0 ∧ FM τ τ' :=
  ⟨_, s39 hc g.2.1, g.push hc, by rw [zup_of (by omega), zset_ne _ _ (by decide)], (FM.zset (by decide)).trans FM.nine⟩
theorem RC.fld {σ : zSt} {S : Row} {c : Nat} {H : Nat → Row} {t : Nat} {T : Row} (h : RC σ S c H t T) : σ 2 0 = S 0 ∧ σ 2 1 = S 1 ∧ σ 2 7 = S 2 ∧ σ 2 11 = S 3 ∧ σ 2 14 = S 4 := h.1.1
/-- the main shop is as the row says, in the words of parts 25 to 31 -/
theorem RC.cs {σ : zSt} {S : Row} {c : Nat} {H : Nat → Row} {t : Nat} {T : Row} (h : RC σ S c H t T) : CS σ S := ⟨⟨h.1.1.1, h.1.1.2.1, h.1.1.2.2.1⟩, h.1.2.1, h.1.2.2.1, h.1.2.2.2.1⟩
theorem s144 {σ : zSt} {S : Row} (h : ShC (shF σ 0) (shA σ 0) S) (m : Int) : ∃ σ', zE 144 0 [some (zR 2), some (zI m)] [] σ = zRV σ' ∧ ShC (shF σ' 0) (shA σ' 0) (begS S m) ∧ ∀ k, k ≠ 2 → (k < 10 ∨ 20 ≤ k) → σ' k = σ k := by
  obtain ⟨h0, hj', hi', hb', hp⟩ := h
  rw [X144_0]
  refine ⟨_, rfl, ⟨⟨?_, ?_, ?_, ?_, ?_⟩, fun j hj => ?_, fun i hi => ?_, fun b hb => ?_, fun q => ?_⟩, fun k h1 h2 => ?_⟩
  · simp [shF, zup, begS, rset]
  · simp [shF, zup, begS, rset]
  · simp [shF, zup, begS, rset]
  · simp [shF, zup, begS, rset]
  · simp [shF, zup, begS, rset]
  · have e : ∀ k, 5 ≤ k → begS S m k = S k := fun k hk => by simp (disch := omega) only [begS, rset_of]
    unfold rW rD rO
    rw [e _ (by omega), e _ (by omega), e _ (by omega)]
    exact hj' j hj
  · have e : ∀ k, 5 ≤ k → begS S m k = S k := fun k hk => by simp (disch := omega) only [begS, rset_of]
    unfold sM sU
    rw [e _ (by omega), e _ (by omega)]
    exact hi' i hi
  · have e : ∀ k, 5 ≤ k → begS S m k = S k := fun k hk => by simp (disch := omega) only [begS, rset_of]
    unfold bM bF bL
    rw [e _ (by omega), e _ (by omega), e _ (by omega)]
    exact hb' b hb
  · have e : begS S m 3 = 0 := by simp (disch := omega) only [begS, rset_of, rset_eq]
    rw [e] at q; cases q
  · simp (disch := omega) only [zup_off]
theorem f_begin {σ τ : zSt} {S : Row} {c : Nat} {H : Nat → Row} {t : Nat} {T : Row} {B : Int} (h : RC σ S c H t T) (g : RM τ S c H t T) (a : RA S c H t T B) (m : Int) : Both [1] (zE 0 0 [some (zR 0), some (zI m), none] [] σ) (zE 47 0 [some (zR 9), some (zI m), none] [] τ) σ τ S c H t T B := by
  rw [X0_0, s33, zbI_some, X47_0, s38, zbI_some, X47_15, zup_at]
  by_cases c1 : 2 ≤ m ∧ m ≤ 5
  · simp only [if_pos c1, if_neg i10, Int.le_refl, if_true]
    obtain ⟨σ1, e1, r1, fr1⟩ := s117 h a
    obtain ⟨σ2, e2, r2, fr2⟩ := s144 r1.1 m
    obtain ⟨τ1, e3, r3, n3, fr3⟩ := m_save (g.nine (i := 0) (v := 0) ⟨by decide, by decide⟩) a.2.1
    rw [e1, zbV_some, e2, zbV_some, e3, zbV_some]
    have ra := RA.push a (Int.le_refl _) (begS_ok (S := S) (B := B) c1)
    have q1 : zup (zup (zup (zup (zup τ1 65 0 m) 65 1 0) 65 2 0) 65 3 0) 65 4 0 = zset τ1 65 (begS S m) := by
      simp only [zup_set, zset_at, zset_set, r3.1]
      rfl
    rw [q1]
    refine Or.inl ⟨S 1, σ2, _, begS S m, _, _, t, T, ?_, ?_, ?_, r1.main ra.2.2.1 (fun k hk => fr2 k (by omega) (by omega)) r2, r3.main, ra, ?_, ?_⟩
    · rw [r1.fld.2.1]
    · rw [r3.1]
    · rw [zset_ne _ _ (by decide), n3, zup_at]
    · exact ⟨(fr2 9 (by decide) (by decide)).trans (fr1 9 (by decide) (by decide)), fun k hk => (fr2 k (by omega) (by omega)).trans (fr1 k (by omega) (by omega))⟩
    · exact (FM.nine.trans fr3).trans (FM.zset (by decide))
  · simp only [if_neg c1, if_true, if_neg (show ¬ ((1 : Int) ≤ 0) by decide)]
    exact Or.inr ⟨0, 1, _, rfl, rfl, rfl, zup_at _ _ _ _, g.nine ⟨by decide, by decide⟩, FM.nine⟩
theorem s153 {σ : zSt} {S : Row} (h : ShC (shF σ 0) (shA σ 0) S) (hG : Good S) (h6 : S 1 < 6) (w d : Int) : ∃ σ', zE 153 0 [some (zR 2), some (zI w), some (zI d)] [] σ = zRI (S 1) σ' ∧ ShC (shF σ' 0) (shA σ' 0) (jobS S w d) ∧ ∀ k, k ≠ 2 → (k < 10 ∨ 20 ≤ k) → σ' k = σ k := by
  obtain ⟨⟨h0, h1, h2, h3, h4⟩, hj', hi', hb', hp⟩ := h
  have g1 := hG.1.2.1
  obtain ⟨n, hn⟩ : ∃ n : Nat, S 1 = (n : Int) := ⟨(S 1).toNat, by omega⟩
  have hn2 : (S 1).toNat = n := by omega
  have k1 : σ 2 1 = (n : Int) := by rw [← hn]; exact h1
  have e : zE 153 0 [some (zR 2), some (zI w), some (zI d)] [] σ = zRI (S 1) (zup (zup (zup (zup (zup σ 10 n w) 11 n d) 12 n 0) 2 11 0) 2 1 ((n : Int) + 1)) := by
    rw [X153_0]
    simp (disch := omega) only [zup_off, k1, toNat_n, zgd_pos, zup_at, zup_of, zw_id]
    rw [hn, show (n : Int) + 1 - 1 = (n : Int) by omega]
  refine ⟨_, e, ⟨⟨?_, ?_, ?_, ?_, ?_⟩, fun j hj => ⟨?_, ?_, ?_⟩, fun i hi => ⟨?_, ?_⟩, fun b hb => ⟨?_, ?_, ?_⟩, fun q => ?_⟩, fun k q1 q2 => by simp (disch := omega) only [zup_off]⟩
  · simp (disch := omega) only [shF, jobS, hn2, zup_off, zup_of, rset_of]; exact h0
  · simp (disch := omega) only [shF, jobS, hn2, zup_off, zup_at, rset_of, rset_eq]; rw [hn]
  · simp (disch := omega) only [shF, jobS, hn2, zup_off, zup_of, rset_of]; exact h2
  · simp (disch := omega) only [shF, jobS, hn2, zup_off, zup_of, zup_at, rset_eq]
  · simp (disch := omega) only [shF, jobS, hn2, zup_off, zup_of, rset_of]; exact h4
  · by_cases c : j = n
    · subst c; simp (disch := omega) only [shA, jobS, rW, hn2, zup_off, zup_at, rset_of, rset_eq]
    · simp (disch := omega) only [shA, jobS, rW, hn2, zup_off, zup_of, rset_of]; exact (hj' j hj).1
  · by_cases c : j = n
    · subst c; simp (disch := omega) only [shA, jobS, rD, hn2, zup_off, zup_at, rset_of, rset_eq]
    · simp (disch := omega) only [shA, jobS, rD, hn2, zup_off, zup_of, rset_of]; exact (hj' j hj).2.1
  · by_cases c : j = n
    · subst c; simp (disch := omega) only [shA, jobS, rO, hn2, zup_off, zup_at, rset_of, rset_eq]
    · simp (disch := omega) only [shA, jobS, rO, hn2, zup_off, zup_of, rset_of]; exact (hj' j hj).2.2
  · simp (disch := omega) only [shA, jobS, sM, hn2, zup_off, rset_of]; exact (hi' i hi).1
  · simp (disch := omega) only [shA, jobS, sU, hn2, zup_off, rset_of]; exact (hi' i hi).2
  · simp (disch := omega) only [shA, jobS, bM, hn2, zup_off, rset_of]; exact (hb' b hb).1
  · simp (disch := omega) only [shA, jobS, bF, hn2, zup_off, rset_of]; exact (hb' b hb).2.1
  · simp (disch := omega) only [shA, jobS, bL, hn2, zup_off, rset_of]; exact (hb' b hb).2.2
  · have q3 : jobS S w d 3 = 0 := rset_eq rfl
    rw [q3] at q; cases q
theorem f_addJob {σ τ : zSt} {S : Row} {c : Nat} {H : Nat → Row} {t : Nat} {T : Row} {B : Int} (h : RC σ S c H t T) (g : RM τ S c H t T) (a : RA S c H t T B) (w d : Int) : Both [1, 2] (zE 1 0 [some (zR 0), some (zI w), some (zI d)] [] σ) (zE 50 0 [some (zR 9), some (zI w), some (zI d)] [] τ) σ τ S c H t T B := by
  have hG := a.1.1
  have g1 := hG.1.2.1
  simp only [X1_0, s33, zbI_some, X50_0, X48_0, s38, s150, zup_at, g.1, h.fld.2.1]
  have bad : ∀ i k : Nat, [1, 2][i]? = some k → Both [1, 2] (some (.inr (k, σ))) (if (((i + 1 : Nat) : Int)) ≤ 0 then zbV (zE 39 0 [some (zR 9), none] [] (zup τ 9 0 ((i + 1 : Nat) : Int))) fun σ2 => zbI (zE 49 0 [some (zR 9), some (zI w), some (zI d), none] [] σ2) fun r3 σ3 => some (.inl (some (zI r3), σ3)) else some (.inl (some (zI 0), zup τ 9 0 ((i + 1 : Nat) : Int)))) σ τ S c H t T B := by
    intro i k hk
    rw [if_neg (by omega)]
    exact Or.inr ⟨i, k, _, hk, rfl, rfl, zup_at _ _ _ _, g.nine ⟨by decide, by decide⟩, FM.nine⟩
  by_cases c1 : 1 ≤ w ∧ w ≤ 9
  · by_cases c2 : 0 ≤ d ∧ d ≤ 999
    · by_cases c3 : S 1 < 6
      · simp only [if_pos c1, if_pos c2, if_pos c3, if_neg i10, if_neg (show ¬ S 1 = 6 by omega), zbI_some, Int.le_refl, if_true]
        obtain ⟨σ1, e1, r1, fr1⟩ := s117 h a
        obtain ⟨σ2, e2, r2, fr2⟩ := s153 r1.1 hG c3 w d
        obtain ⟨τ1, e3, r3, n3, fr3⟩ := m_save (g.nine (i := 0) (v := 0) ⟨by decide, by decide⟩) a.2.1
        rw [e1, zbV_some, e2, zbI_some, e3, zbV_some]
        have ra := RA.push a (Int.le_refl _) (jobS_ok (B := B) hG c1 c2 c3)
        obtain ⟨n, hn⟩ : ∃ n : Nat, S 1 = (n : Int) := ⟨(S 1).toNat, by omega⟩
        have e4 : zE 49 0 [some (zR 9), some (zI w), some (zI d), none] [] τ1 = zRI (S 1) (zset τ1 65 (jobS S w d)) := by
          rw [X49_0, r3.1, hn]
          simp (disch := omega) only [zw_id, zgd_pos, zup_of, r3.1]
          have b1 : ((5 : Int) + 3 * (n : Int) + 0).toNat = 5 + 3 * n := by omega
          have b2 : ((5 : Int) + 3 * (n : Int) + 1).toNat = 6 + 3 * n := by omega
          have b3 : ((5 : Int) + 3 * (n : Int) + 2).toNat = 7 + 3 * n := by omega
          have b4 : (S 1).toNat = n := by omega
          rw [b1, b2, b3]
          simp only [zup_set, zset_at, zset_set, r3.1]
          unfold jobS
          rw [b4]
        rw [e4]
        refine Or.inl ⟨S 1, σ2, _, jobS S w d, _, _, t, T, rfl, rfl, ?_, r1.main ra.2.2.1 (fun k hk => fr2 k (by omega) (by omega)) r2, r3.main, ra, ?_, ?_⟩
        · rw [zset_ne _ _ (by decide), n3, zup_at]
        · exact ⟨(fr2 9 (by decide) (by decide)).trans (fr1 9 (by decide) (by decide)), fun k hk => (fr2 k (by omega) (by omega)).trans (fr1 k (by omega) (by omega))⟩
        · exact (FM.nine.trans fr3).trans (FM.zset (by decide))
      · simp only [if_pos c1, if_pos c2, if_neg c3, if_neg i10, if_pos (show S 1 = 6 by omega), zbI_some, if_true]
        exact bad 1 2 rfl
    · simp only [if_pos c1, if_neg c2, if_neg i10, zbI_some, if_true]
      exact bad 0 1 rfl
  · simp only [if_neg c1, zbI_some, if_true]
    exact bad 0 1 rfl
theorem s154 {σ : zSt} {S : Row} (h : ShC (shF σ 0) (shA σ 0) S) (hG : Good S) {j : Nat} (hj : (j : Int) < S 1) (h5 : rO S j < 5) (m u : Int) : ∃ σ', zE 154 0 [some (zR 2), some (zI j), some (zI m), some (zI u), none] [] σ = zRI (rO S j) σ' ∧ ShC (shF σ' 0) (shA σ' 0) (opS S j m u) ∧ ∀ k, k ≠ 2 → (k < 10 ∨ 20 ≤ k) → σ' k = σ k := by
  have hO := h
  obtain ⟨⟨h0, h1, h2, h3, h4⟩, hj', hi', hb', hp⟩ := h
  have hj6 := hG.j6 hj
  have g1 := (hG.2.1 j hj).2.2
  obtain ⟨n, hn⟩ : ∃ n : Nat, rO S j = (n : Int) := ⟨(rO S j).toNat, by omega⟩
  have hn2 : nO S j = n := by unfold nO; omega
  have k1 : σ 12 j = (n : Int) := by rw [← hn]; exact (hj' j hj6).2.2
  have e : zE 154 0 [some (zR 2), some (zI j), some (zI m), some (zI u), none] [] σ = zRI (rO S j) (zup (zup (zup (zup σ 13 (5 * j + n) m) 14 (5 * j + n) u) 2 11 0) 12 j ((n : Int) + 1)) := by
    rw [X154_0, toNat_n, k1, s35 (by omega) (by omega), zbI_some, toNat_n]
    simp (disch := omega) only [zup_off, k1, toNat_n, zgd_pos, zup_at, zup_of, zw_id]
    rw [hn, show (n : Int) + 1 - 1 = (n : Int) by omega]
  refine ⟨_, e, ⟨⟨?_, ?_, ?_, ?_, ?_⟩, fun j' hj2 => ⟨?_, ?_, ?_⟩, fun i hi => ⟨?_, ?_⟩, fun b hb => ⟨?_, ?_, ?_⟩, fun q => ?_⟩, fun k q1 q2 => by simp (disch := omega) only [zup_off]⟩
  · simp (disch := omega) only [shF, opS, hn2, zup_off, zup_of, rset_of]; exact h0
  · simp (disch := omega) only [shF, opS, hn2, zup_off, zup_of, rset_of]; exact h1
  · simp (disch := omega) only [shF, opS, hn2, zup_off, zup_of, rset_of]; exact h2
  · simp (disch := omega) only [shF, opS, hn2, zup_off, zup_of, zup_at, rset_eq]
  · simp (disch := omega) only [shF, opS, hn2, zup_off, zup_of, rset_of]; exact h4
  · simp (disch := omega) only [shA, opS, rW, hn2, zup_off, rset_of]; exact (hj' j' hj2).1
  · simp (disch := omega) only [shA, opS, rD, hn2, zup_off, rset_of]; exact (hj' j' hj2).2.1
  · by_cases c : j' = j
    · subst c; simp (disch := omega) only [shA, opS, rO, hn2, zup_off, zup_at, rset_of, rset_eq]
      have hn' : S (7 + 3 * j') = (n : Int) := hn
      rw [hn']
    · simp (disch := omega) only [shA, opS, rO, hn2, zup_off, zup_of, rset_of]; exact (hj' j' hj2).2.2
  · by_cases c : i = 5 * j + n
    · subst c; simp (disch := omega) only [shA, opS, sM, hn2, zup_off, zup_at, rset_of, rset_eq]
    · simp (disch := omega) only [shA, opS, sM, hn2, zup_off, zup_of, rset_of]; exact (hi' i hi).1
  · by_cases c : i = 5 * j + n
    · subst c; simp (disch := omega) only [shA, opS, sU, hn2, zup_off, zup_at, rset_of, rset_eq]
    · simp (disch := omega) only [shA, opS, sU, hn2, zup_off, zup_of, rset_of]; exact (hi' i hi).2
  · simp (disch := omega) only [shA, opS, bM, hn2, zup_off, rset_of]; exact (hb' b hb).1
  · simp (disch := omega) only [shA, opS, bF, hn2, zup_off, rset_of]; exact (hb' b hb).2.1
  · simp (disch := omega) only [shA, opS, bL, hn2, zup_off, rset_of]; exact (hb' b hb).2.2
  · have q3 : opS S j m u 3 = 0 := rset_eq rfl
    rw [q3] at q; cases q
theorem s155 {σ : zSt} {S : Row} (h : ShC (shF σ 0) (shA σ 0) S) (hG : Good S) (h6 : S 2 < 6) (m f l : Int) : ∃ σ', zE 155 0 [some (zR 2), some (zI m), some (zI f), some (zI l)] [] σ = zRI (S 2) σ' ∧ ShC (shF σ' 0) (shA σ' 0) (brkS S m f l) ∧ ∀ k, k ≠ 2 → (k < 10 ∨ 20 ≤ k) → σ' k = σ k := by
  obtain ⟨⟨h0, h1, h2, h3, h4⟩, hj', hi', hb', hp⟩ := h
  have g1 := hG.1.2.2.1
  obtain ⟨n, hn⟩ : ∃ n : Nat, S 2 = (n : Int) := ⟨(S 2).toNat, by omega⟩
  have hn2 : (S 2).toNat = n := by omega
  have k1 : σ 2 7 = (n : Int) := by rw [← hn]; exact h2
  have e : zE 155 0 [some (zR 2), some (zI m), some (zI f), some (zI l)] [] σ = zRI (S 2) (zup (zup (zup (zup σ 15 n m) 16 n f) 17 n l) 2 7 ((n : Int) + 1)) := by
    rw [X155_0]
    simp (disch := omega) only [zup_off, k1, toNat_n, zgd_pos, zup_at, zup_of, zw_id]
    rw [hn, show (n : Int) + 1 - 1 = (n : Int) by omega]
  refine ⟨_, e, ⟨⟨?_, ?_, ?_, ?_, ?_⟩, fun j' hj2 => ⟨?_, ?_, ?_⟩, fun i hi => ⟨?_, ?_⟩, fun b hb => ⟨?_, ?_, ?_⟩, fun q j o hl => ?_⟩, fun k q1 q2 => by simp (disch := omega) only [zup_off]⟩
  · simp (disch := omega) only [shF, brkS, hn2, zup_off, zup_of, rset_of]; exact h0
  · simp (disch := omega) only [shF, brkS, hn2, zup_off, zup_of, rset_of]; exact h1
  · simp (disch := omega) only [shF, brkS, hn2, zup_off, zup_at, rset_eq]; rw [hn]
  · simp (disch := omega) only [shF, brkS, hn2, zup_off, zup_of, rset_of]; exact h3
  · simp (disch := omega) only [shF, brkS, hn2, zup_off, zup_of, rset_of]; exact h4
  · simp (disch := omega) only [shA, brkS, rW, hn2, zup_off, rset_of]; exact (hj' j' hj2).1
  · simp (disch := omega) only [shA, brkS, rD, hn2, zup_off, rset_of]; exact (hj' j' hj2).2.1
  · simp (disch := omega) only [shA, brkS, rO, hn2, zup_off, rset_of]; exact (hj' j' hj2).2.2
  · simp (disch := omega) only [shA, brkS, sM, hn2, zup_off, rset_of]; exact (hi' i hi).1
  · simp (disch := omega) only [shA, brkS, sU, hn2, zup_off, rset_of]; exact (hi' i hi).2
  · by_cases c : b = n
    · subst c; simp (disch := omega) only [shA, brkS, bM, hn2, zup_off, zup_at, rset_of, rset_eq]
    · simp (disch := omega) only [shA, brkS, bM, hn2, zup_off, zup_of, rset_of]; exact (hb' b hb).1
  · by_cases c : b = n
    · subst c; simp (disch := omega) only [shA, brkS, bF, hn2, zup_off, zup_at, rset_of, rset_eq]
    · simp (disch := omega) only [shA, brkS, bF, hn2, zup_off, zup_of, rset_of]; exact (hb' b hb).2.1
  · by_cases c : b = n
    · subst c; simp (disch := omega) only [shA, brkS, bL, hn2, zup_off, zup_at, rset_of, rset_eq]
    · simp (disch := omega) only [shA, brkS, bL, hn2, zup_off, zup_of, rset_of]; exact (hb' b hb).2.2
  · have lo : ∀ k, k < 143 → k ≠ 2 → brkS S m f l k = S k := fun k a1 a2 => by simp (disch := omega) only [brkS, hn2, rset_of]
    rw [lo 3 (by omega) (by omega)] at q
    have hl2 : Live S j o := by
      obtain ⟨x1, x2⟩ := hl
      rw [lo 1 (by omega) (by omega)] at x1
      have := hG.j6 x1
      unfold rO at x2
      rw [lo _ (by omega) (by omega)] at x2
      exact ⟨x1, x2⟩
    have hj6 := hG.j6 hl2.1
    have ho5 := hG.o5 hl2
    obtain ⟨y1, y2⟩ := hp q j o hl2
    unfold sL sP
    rw [lo _ (by omega) (by omega), lo _ (by omega) (by omega)]
    simp (disch := omega) only [shA, zup_off]
    exact ⟨y1, y2⟩
theorem bad3 {ks : List Nat} {σ τ : zSt} {S : Row} {c : Nat} {H : Nat → Row} {t : Nat} {T : Row} {B : Int} (g : RM τ S c H t T) (i k : Nat) (hk : ks[i]? = some k) {x : Option zOut} : Both ks (some (.inr (k, σ))) (if (((i + 1 : Nat) : Int)) ≤ 0 then x else some (.inl (some (zI 0), zup τ 9 0 ((i + 1 : Nat) : Int)))) σ τ S c H t T B := by
  rw [if_neg (by omega)]
  exact Or.inr ⟨i, k, _, hk, rfl, rfl, zup_at _ _ _ _, g.nine ⟨by decide, by decide⟩, FM.nine⟩
theorem f_addOperation {σ τ : zSt} {S : Row} {c : Nat} {H : Nat → Row} {t : Nat} {T : Row} {B : Int} (h : RC σ S c H t T) (g : RM τ S c H t T) (a : RA S c H t T B) (j m u : Int) : Both [3, 1, 2] (zE 2 0 [some (zR 0), some (zI j), some (zI m), some (zI u)] [] σ) (zE 53 0 [some (zR 9), some (zI j), some (zI m), some (zI u)] [] τ) σ τ S c H t T B := by
  have hG := a.1.1
  have g1 := hG.1.2.1
  have g0 := hG.1.1
  have hGτ : Good (τ 65) := by rw [g.1]; exact hG
  rw [X2_0, s147, zbI_some, h.fld.2.1, X53_0, X51_0, s41 hGτ, zbI_some, g.1]
  by_cases c1 : 0 ≤ j ∧ j < S 1
  · obtain ⟨n, rfl⟩ : ∃ n : Nat, j = (n : Int) := ⟨j.toNat, by omega⟩
    have hn6 := hG.j6 c1.2
    rw [if_pos c1, if_neg i10, if_neg i10, s146, zbI_some, h.fld.1, s40 hGτ, zbI_some, g.1]
    by_cases c2 : 0 ≤ m ∧ m < S 0
    · rw [if_pos c2, if_neg i10, if_neg i10, s33, zbI_some, s38, zbI_some]
      by_cases c3 : 1 ≤ u ∧ u ≤ 20
      · have k1 : σ 12 n = rO S n := (h.1.2.1 n hn6).2.2
        have g5 := (hG.2.1 n c1.2).2.2
        rw [if_pos c3, if_neg i10, if_neg i10, s151 hn6, zbI_some, s42_2 hn6, zbI_some, k1, g.1]
        by_cases c4 : rO S n < 5
        · rw [if_pos c4, if_neg i10, if_neg (show ¬ rO S n = 5 by omega)]
          show Both _ _ (zbI (zRI 0 τ) _) _ _ _ _ _ _ _ _
          rw [zbI_some, zup_at, if_pos (Int.le_refl 0)]
          obtain ⟨σ1, e1, r1, fr1⟩ := s117 h a
          obtain ⟨σ2, e2, r2, fr2⟩ := s154 r1.1 hG c1.2 c4 m u
          obtain ⟨τ1, e3, r3, n3, fr3⟩ := m_save (g.nine (i := 0) (v := 0) ⟨by decide, by decide⟩) a.2.1
          rw [e1, zbV_some, e2, zbI_some, e3, zbV_some]
          have ra := RA.push a (Int.le_refl _) (opS_ok (B := B) hG c1.2 (m := m) (u := u) (by omega) c3 c4)
          obtain ⟨o, ho⟩ : ∃ o : Nat, rO S n = (o : Int) := ⟨(rO S n).toNat, by omega⟩
          have e4 : zE 52 0 [some (zR 9), some (zI n), some (zI m), some (zI u), none] [] τ1 = zRI (rO S n) (zset τ1 65 (opS S n m u)) := by
            have ho2 : nO S n = o := by unfold nO; omega
            rw [X52_0, s42_2 hn6, zbI_some, r3.1, ho, s43 hn6 (by omega), zbI_some, s43 hn6 (by omega)]
            simp (disch := omega) only [zw_id, zgd_pos, zup_of, r3.1, zbI_some]
            have b1 : (((23 + 4 * (5 * n + o) : Nat) : Int) + 0).toNat = 23 + 4 * (5 * n + o) := by omega
            have b2 : (((23 + 4 * (5 * n + o) : Nat) : Int) + 1).toNat = 24 + 4 * (5 * n + o) := by omega
            have b3 : ((5 : Int) + 3 * (n : Int) + 2).toNat = 7 + 3 * n := by omega
            have b4 : S (7 + 3 * n) = (o : Int) := ho
            rw [b1, b2, b3]
            simp (disch := omega) only [zup_set, zset_at, zset_set, r3.1, rset_of]
            rw [b4, zw_id (by omega) (by omega)]
            unfold opS
            rw [ho2, ho]
          rw [e4]
          refine Or.inl ⟨rO S n, σ2, _, opS S n m u, _, _, t, T, rfl, rfl, ?_, r1.main ra.2.2.1 (fun k hk => fr2 k (by omega) (by omega)) r2, r3.main, ra, ?_, ?_⟩
          · rw [zset_ne _ _ (by decide), n3, zup_at]
          · exact ⟨(fr2 9 (by decide) (by decide)).trans (fr1 9 (by decide) (by decide)), fun k hk => (fr2 k (by omega) (by omega)).trans (fr1 k (by omega) (by omega))⟩
          · exact (FM.nine.trans fr3).trans (FM.zset (by decide))
        · rw [if_neg c4, if_pos rfl, if_pos (show rO S n = 5 by omega)]
          show Both _ _ (zbI (zRI 3 τ) _) _ _ _ _ _ _ _ _
          rw [zbI_some, zup_at]
          exact bad3 g 2 2 rfl
      · rw [if_neg c3, if_pos rfl, if_pos rfl]
        show Both _ _ (zbI (zRI 2 τ) _) _ _ _ _ _ _ _ _
        rw [zbI_some, zup_at]
        exact bad3 g 1 1 rfl
    · rw [if_neg c2, if_pos rfl, if_pos rfl]
      show Both _ _ (zbI (zRI 1 τ) _) _ _ _ _ _ _ _ _
      rw [zbI_some, zup_at]
      exact bad3 g 0 3 rfl
  · rw [if_neg c1, if_pos rfl, if_pos rfl]
    show Both _ _ (zbI (zRI 1 τ) _) _ _ _ _ _ _ _ _
    rw [zbI_some, zup_at]
    exact bad3 g 0 3 rfl
theorem f_breakDown {σ τ : zSt} {S : Row} {c : Nat} {H : Nat → Row} {t : Nat} {T : Row} {B : Int} (h : RC σ S c H t T) (g : RM τ S c H t T) (a : RA S c H t T B) (m f l : Int) : Both [3, 1, 2] (zE 3 0 [some (zR 0), some (zI m), some (zI f), some (zI l)] [] σ) (zE 56 0 [some (zR 9), some (zI m), some (zI f), some (zI l)] [] τ) σ τ S c H t T B := by
  have hG := a.1.1
  have g0 := hG.1.1
  have g2 := hG.1.2.2.1
  have hGτ : Good (τ 65) := by rw [g.1]; exact hG
  rw [X3_0, s146, zbI_some, h.fld.1, X56_0, X54_0, s40 hGτ, zbI_some, g.1]
  by_cases c1 : 0 ≤ m ∧ m < S 0
  · rw [if_pos c1, if_neg i10, if_neg i10, s33, zbI_some, s38, zbI_some]
    by_cases c2 : 0 ≤ f ∧ f ≤ 500
    · rw [if_pos c2, if_neg i10, if_neg i10, s33, zbI_some, s38, zbI_some]
      by_cases c3 : 1 ≤ l ∧ l ≤ 50
      · rw [if_pos c3, if_neg i10, if_neg i10, s152, zbI_some, h.fld.2.2.1, g.1]
        by_cases c4 : S 2 < 6
        · rw [if_pos c4, if_neg i10, if_neg (show ¬ S 2 = 6 by omega)]
          show Both _ _ (zbI (zRI 0 τ) _) _ _ _ _ _ _ _ _
          rw [zbI_some, zup_at, if_pos (Int.le_refl 0)]
          obtain ⟨σ1, e1, r1, fr1⟩ := s117 h a
          obtain ⟨σ2, e2, r2, fr2⟩ := s155 r1.1 hG c4 m f l
          obtain ⟨τ1, e3, r3, n3, fr3⟩ := m_save (g.nine (i := 0) (v := 0) ⟨by decide, by decide⟩) a.2.1
          rw [e1, zbV_some, e2, zbI_some, e3, zbV_some]
          have ra := RA.push a (Int.le_refl _) (brkS_ok a.1 (m := m) (f := f) (l := l) (by omega) c2 c3 c4)
          obtain ⟨n, hn⟩ : ∃ n : Nat, S 2 = (n : Int) := ⟨(S 2).toNat, by omega⟩
          have e4 : zE 55 0 [some (zR 9), some (zI m), some (zI f), some (zI l), none] [] τ1 = zRI (S 2) (zset τ1 65 (brkS S m f l)) := by
            rw [X55_0, r3.1, hn]
            simp (disch := omega) only [zw_id, zgd_pos, zup_of, r3.1]
            have b1 : ((143 : Int) + 3 * (n : Int) + 0).toNat = 143 + 3 * n := by omega
            have b2 : ((143 : Int) + 3 * (n : Int) + 1).toNat = 144 + 3 * n := by omega
            have b3 : ((143 : Int) + 3 * (n : Int) + 2).toNat = 145 + 3 * n := by omega
            have b4 : (S 2).toNat = n := by omega
            rw [b1, b2, b3]
            simp only [zup_set, zset_at, zset_set, r3.1]
            unfold brkS
            rw [b4]
          rw [e4]
          refine Or.inl ⟨S 2, σ2, _, brkS S m f l, _, _, t, T, rfl, rfl, ?_, r1.main ra.2.2.1 (fun k hk => fr2 k (by omega) (by omega)) r2, r3.main, ra, ?_, ?_⟩
          · rw [zset_ne _ _ (by decide), n3, zup_at]
          · exact ⟨(fr2 9 (by decide) (by decide)).trans (fr1 9 (by decide) (by decide)), fun k hk => (fr2 k (by omega) (by omega)).trans (fr1 k (by omega) (by omega))⟩
          · exact (FM.nine.trans fr3).trans (FM.zset (by decide))
        · rw [if_neg c4, if_pos rfl, if_pos (show S 2 = 6 by omega)]
          show Both _ _ (zbI (zRI 3 τ) _) _ _ _ _ _ _ _ _
          rw [zbI_some, zup_at]
          exact bad3 g 2 2 rfl
      · rw [if_neg c3, if_pos rfl, if_pos rfl]
        show Both _ _ (zbI (zRI 2 τ) _) _ _ _ _ _ _ _ _
        rw [zbI_some, zup_at]
        exact bad3 g 1 1 rfl
    · rw [if_neg c2, if_pos rfl, if_pos rfl]
      show Both _ _ (zbI (zRI 2 τ) _) _ _ _ _ _ _ _ _
      rw [zbI_some, zup_at]
      exact bad3 g 1 1 rfl
  · rw [if_neg c1, if_pos rfl, if_pos rfl]
    show Both _ _ (zbI (zRI 1 τ) _) _ _ _ _ _ _ _ _
    rw [zbI_some, zup_at]
    exact bad3 g 0 3 rfl
