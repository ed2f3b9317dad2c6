/-! ===== 39: begin, addJob, addOperation, breakDown, repaired, bargain, overtime, undo ===== -/
theorem i10 : ¬ ((1 : Int) = 0) := by decide
theorem RC.fld {σ : zSt} {S : Row} {c : Nat} {H : Nat → Row} {t : Nat} {T : Row} (h : RC σ S c H t T) : σ 2 0 = S 0 ∧ σ 2 1 = S 1 ∧ σ 2 7 = S 2 ∧ σ 2 11 = S 3 ∧ σ 2 14 = S 4 := h.1.1
/-- the main shop is as the row says, in the words of parts 25 to 31 -/
theorem RC.cs {σ : zSt} {S : Row} {c : Nat} {H : Nat → Row} {t : Nat} {T : Row} (h : RC σ S c H t T) : CS σ S := ⟨⟨h.1.1.1, h.1.1.2.1, h.1.1.2.2.1⟩, h.1.2.1, h.1.2.2.1, h.1.2.2.2.1⟩
theorem s153 {σ : zSt} {S : Row} (h : ShC (shF σ 0) (shA σ 0) S) (hG : Good S) (h6 : S 1 < 6) (w d : Int) : ∃ σ', zE 153 0 [some (zR 2), some (zI w), some (zI d)] [] σ = zRI (S 1) σ' ∧ ShC (shF σ' 0) (shA σ' 0) (jobS S w d) ∧ ∀ k, k ≠ 2 → (k < 10 ∨ 20 ≤ k) → σ' k = σ k := by
  obtain ⟨⟨h0, h1, h2, h3, h4⟩, hj', hi', hb', hp⟩ := h
  have g1 := hG.1.2.1
  obtain ⟨n, hn⟩ : ∃ n : Nat, S 1 = (n : Int) := ⟨(S 1).toNat, by omega⟩
  have hn2 : (S 1).toNat = n := by omega
  have k1 : σ 2 1 = (n : Int) := by rw [← hn]; exact h1
  have e : zE 153 0 [some (zR 2), some (zI w), some (zI d)] [] σ = zRI (S 1) (zup (zup (zup (zup (zup σ 10 n w) 11 n d) 12 n 0) 2 11 0) 2 1 ((n : Int) + 1)) := by
    rw [X153_0]
    simp (disch := omega) only [zup_off, k1, toNat_n, zgd_pos, zup_at, zup_of, zw_id]
    rw [hn, show (n : Int) + 1 - 1 = (n : Int) by omega]
  refine ⟨_, e, ⟨⟨?_, ?_, ?_, ?_, ?_⟩, fun j hj => ⟨?_, ?_, ?_⟩, fun i hi => ⟨?_, ?_⟩, fun b hb => ⟨?_, ?_, ?_⟩, fun q => ?_⟩, fun k q1 q2 => by simp (disch := omega) only [zup_off]⟩
  · simp (disch := omega) only [shF, jobS, hn2, zup_off, zup_of, rset_of]; exact h0
  · simp (disch := omega) only [shF, jobS, hn2, zup_off, zup_at, rset_of, rset_eq]; rw [hn]
  · simp (disch := omega) only [shF, jobS, hn2, zup_off, zup_of, rset_of]; exact h2
  · simp (disch := omega) only [shF, jobS, hn2, zup_off, zup_of, zup_at, rset_eq]
  · simp (disch := omega) only [shF, jobS, hn2, zup_off, zup_of, rset_of]; exact h4
  · by_cases c : j = n
    · subst c; simp (disch := omega) only [shA, jobS, rW, hn2, zup_off, zup_at, rset_of, rset_eq]
    · simp (disch := omega) only [shA, jobS, rW, hn2, zup_off, zup_of, rset_of]; exact (hj' j hj).1
  · by_cases c : j = n
    · subst c; simp (disch := omega) only [shA, jobS, rD, hn2, zup_off, zup_at, rset_of, rset_eq]
    · simp (disch := omega) only [shA, jobS, rD, hn2, zup_off, zup_of, rset_of]; exact (hj' j hj).2.1
  · by_cases c : j = n
    · subst c; simp (disch := omega) only [shA, jobS, rO, hn2, zup_off, zup_at, rset_of, rset_eq]
    · simp (disch := omega) only [shA, jobS, rO, hn2, zup_off, zup_of, rset_of]; exact (hj' j hj).2.2
  · simp (disch := omega) only [shA, jobS, sM, hn2, zup_off, rset_of]; exact (hi' i hi).1
  · simp (disch := omega) only [shA, jobS, sU, hn2, zup_off, rset_of]; exact (hi' i hi).2
  · simp (disch := omega) only [shA, jobS, bM, hn2, zup_off, rset_of]; exact (hb' b hb).1
  · simp (disch := omega) only [shA, jobS, bF, hn2, zup_off, rset_of]; exact (hb' b hb).2.1
  · simp (disch := omega) only [shA, jobS, bL, hn2, zup_off, rset_of]; exact (hb' b hb).2.2
  · have q3 : jobS S w d 3 = 0 := rset_eq rfl
    rw [q3] at q; cases q
theorem s154 {σ : zSt} {S : Row} (h : ShC (shF σ 0) (shA σ 0) S) (hG : Good S) {j : Nat} (hj : (j : Int) < S 1) (h5 : rO S j < 5) (m u : Int) : ∃ σ', zE 154 0 [some (zR 2), some (zI j), some (zI m), some (zI u), none] [] σ = zRI (rO S j) σ' ∧ ShC (shF σ' 0) (shA σ' 0) (opS S j m u) ∧ ∀ k, k ≠ 2 → (k < 10 ∨ 20 ≤ k) → σ' k = σ k := by
  have hO := h
  obtain ⟨⟨h0, h1, h2, h3, h4⟩, hj', hi', hb', hp⟩ := h
  have hj6 := hG.j6 hj
  have g1 := (hG.2.1 j hj).2.2
  obtain ⟨n, hn⟩ : ∃ n : Nat, rO S j = (n : Int) := ⟨(rO S j).toNat, by omega⟩
  have hn2 : nO S j = n := by unfold nO; omega
  have k1 : σ 12 j = (n : Int) := by rw [← hn]; exact (hj' j hj6).2.2
  have e : zE 154 0 [some (zR 2), some (zI j), some (zI m), some (zI u), none] [] σ = zRI (rO S j) (zup (zup (zup (zup σ 13 (5 * j + n) m) 14 (5 * j + n) u) 2 11 0) 12 j ((n : Int) + 1)) := by
    rw [X154_0, toNat_n, k1, s35 (by omega) (by omega), zbI_some, toNat_n]
    simp (disch := omega) only [zup_off, k1, toNat_n, zgd_pos, zup_at, zup_of, zw_id]
    rw [hn, show (n : Int) + 1 - 1 = (n : Int) by omega]
  refine ⟨_, e, ⟨⟨?_, ?_, ?_, ?_, ?_⟩, fun j' hj2 => ⟨?_, ?_, ?_⟩, fun i hi => ⟨?_, ?_⟩, fun b hb => ⟨?_, ?_, ?_⟩, fun q => ?_⟩, fun k q1 q2 => by simp (disch := omega) only [zup_off]⟩
  · simp (disch := omega) only [shF, opS, hn2, zup_off, zup_of, rset_of]; exact h0
  · simp (disch := omega) only [shF, opS, hn2, zup_off, zup_of, rset_of]; exact h1
  · simp (disch := omega) only [shF, opS, hn2, zup_off, zup_of, rset_of]; exact h2
  · simp (disch := omega) only [shF, opS, hn2, zup_off, zup_of, zup_at, rset_eq]
  · simp (disch := omega) only [shF, opS, hn2, zup_off, zup_of, rset_of]; exact h4
  · simp (disch := omega) only [shA, opS, rW, hn2, zup_off, rset_of]; exact (hj' j' hj2).1
  · simp (disch := omega) only [shA, opS, rD, hn2, zup_off, rset_of]; exact (hj' j' hj2).2.1
  · by_cases c : j' = j
    · subst c; simp (disch := omega) only [shA, opS, rO, hn2, zup_off, zup_at, rset_of, rset_eq]
      have hn' : S (7 + 3 * j') = (n : Int) := hn
      rw [hn']
    · simp (disch := omega) only [shA, opS, rO, hn2, zup_off, zup_of, rset_of]; exact (hj' j' hj2).2.2
  · by_cases c : i = 5 * j + n
    · subst c; simp (disch := omega) only [shA, opS, sM, hn2, zup_off, zup_at, rset_of, rset_eq]
    · simp (disch := omega) only [shA, opS, sM, hn2, zup_off, zup_of, rset_of]; exact (hi' i hi).1
  · by_cases c : i = 5 * j + n
    · subst c; simp (disch := omega) only [shA, opS, sU, hn2, zup_off, zup_at, rset_of, rset_eq]
    · simp (disch := omega) only [shA, opS, sU, hn2, zup_off, zup_of, rset_of]; exact (hi' i hi).2
  · simp (disch := omega) only [shA, opS, bM, hn2, zup_off, rset_of]; exact (hb' b hb).1
  · simp (disch := omega) only [shA, opS, bF, hn2, zup_off, rset_of]; exact (hb' b hb).2.1
  · simp (disch := omega) only [shA, opS, bL, hn2, zup_off, rset_of]; exact (hb' b hb).2.2
  · have q3 : opS S j m u 3 = 0 := rset_eq rfl
    rw [q3] at q; cases q
theorem s155 {σ : zSt} {S : Row} (h : ShC (shF σ 0) (shA σ 0) S) (hG : Good S) (h6 : S 2 < 6) (m f l : Int) : ∃ σ', zE 155 0 [some (zR 2), some (zI m), some (zI f), some (zI l)] [] σ = zRI (S 2) σ' ∧ ShC (shF σ' 0) (shA σ' 0) (brkS S m f l) ∧ ∀ k, k ≠ 2 → (k < 10 ∨ 20 ≤ k) → σ' k = σ k := by
  obtain ⟨⟨h0, h1, h2, h3, h4⟩, hj', hi', hb', hp⟩ := h
  have g1 := hG.1.2.2.1
  obtain ⟨n, hn⟩ : ∃ n : Nat, S 2 = (n : Int) := ⟨(S 2).toNat, by omega⟩
  have hn2 : (S 2).toNat = n := by omega
  have k1 : σ 2 7 = (n : Int) := by rw [← hn]; exact h2
  have e : zE 155 0 [some (zR 2), some (zI m), some (zI f), some (zI l)] [] σ = zRI (S 2) (zup (zup (zup (zup σ 15 n m) 16 n f) 17 n l) 2 7 ((n : Int) + 1)) := by
    rw [X155_0]
    simp (disch := omega) only [zup_off, k1, toNat_n, zgd_pos, zup_at, zup_of, zw_id]
    rw [hn, show (n : Int) + 1 - 1 = (n : Int) by omega]
  refine ⟨_, e, ⟨⟨?_, ?_, ?_, ?_, ?_⟩, fun j' hj2 => ⟨?_, ?_, ?_⟩, fun i hi => ⟨?_, ?_⟩, fun b hb => ⟨?_, ?_, ?_⟩, fun q j o hl => ?_⟩, fun k q1 q2 => by simp (disch := omega) only [zup_off]⟩
  · simp (disch := omega) only [shF, brkS, hn2, zup_off, zup_of, rset_of]; exact h0
  · simp (disch := omega) only [shF, brkS, hn2, zup_off, zup_of, rset_of]; exact h1
  · simp (disch := omega) only [shF, brkS, hn2, zup_off, zup_at, rset_eq]; rw [hn]
  · simp (disch := omega) only [shF, brkS, hn2, zup_off, zup_of, rset_of]; exact h3
  · simp (disch := omega) only [shF, brkS, hn2, zup_off, zup_of, rset_of]; exact h4
  · simp (disch := omega) only [shA, brkS, rW, hn2, zup_off, rset_of]; exact (hj' j' hj2).1
  · simp (disch := omega) only [shA, brkS, rD, hn2, zup_off, rset_of]; exact (hj' j' hj2).2.1
  · simp (disch := omega) only [shA, brkS, rO, hn2, zup_off, rset_of]; exact (hj' j' hj2).2.2
  · simp (disch := omega) only [shA, brkS, sM, hn2, zup_off, rset_of]; exact (hi' i hi).1
  · simp (disch := omega) only [shA, brkS, sU, hn2, zup_off, rset_of]; exact (hi' i hi).2
  · by_cases c : b = n
    · subst c; simp (disch := omega) only [shA, brkS, bM, hn2, zup_off, zup_at, rset_of, rset_eq]
    · simp (disch := omega) only [shA, brkS, bM, hn2, zup_off, zup_of, rset_of]; exact (hb' b hb).1
  · by_cases c : b = n
    · subst c; simp (disch := omega) only [shA, brkS, bF, hn2, zup_off, zup_at, rset_of, rset_eq]
    · simp (disch := omega) only [shA, brkS, bF, hn2, zup_off, zup_of, rset_of]; exact (hb' b hb).2.1
  · by_cases c : b = n
    · subst c; simp (disch := omega) only [shA, brkS, bL, hn2, zup_off, zup_at, rset_of, rset_eq]
    · simp (disch := omega) only [shA, brkS, bL, hn2, zup_off, zup_of, rset_of]; exact (hb' b hb).2.2
  · have lo : ∀ k, k < 143 → k ≠ 2 → brkS S m f l k = S k := fun k a1 a2 => by simp (disch := omega) only [brkS, hn2, rset_of]
    rw [lo 3 (by omega) (by omega)] at q
    have hl2 : Live S j o := by
      obtain ⟨x1, x2⟩ := hl
      rw [lo 1 (by omega) (by omega)] at x1
      have := hG.j6 x1
      unfold rO at x2
      rw [lo _ (by omega) (by omega)] at x2
      exact ⟨x1, x2⟩
    have hj6 := hG.j6 hl2.1
    have ho5 := hG.o5 hl2
    obtain ⟨y1, y2⟩ := hp q j o hl2
    unfold sL sP
    rw [lo _ (by omega) (by omega), lo _ (by omega) (by omega)]
    simp (disch := omega) only [shA, zup_off]
    exact ⟨y1, y2⟩
