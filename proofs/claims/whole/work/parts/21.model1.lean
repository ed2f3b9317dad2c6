/-! ===== 21: the model's reads, hits, least starts ===== -/
abbrev zRI (x : Int) (σ : zSt) : Option zOut := some (.inl (some (zI x), σ))
abbrev zRV (σ : zSt) : Option zOut := some (.inl (none, σ))
theorem zw_nat1 {j : Nat} (h : j < 1000000) : zw ((j : Int) + 1) = ((j + 1 : Nat) : Int) := by
  rw [zw_id (by omega) (by omega)]; rfl
theorem s38 (a b c : Int) (σ : zSt) : zE 38 0 [some (zI a), some (zI b), some (zI c)] [] σ = zRI (if b ≤ a ∧ a ≤ c then 1 else 0) σ := by
  rw [X38_0]
  by_cases h1 : a < b
  · rw [if_pos h1, if_neg (by omega), zgd_pos (Or.inl rfl)]
  · rw [if_neg h1]
    by_cases h2 : a ≤ c
    · rw [if_pos h2, if_pos (by omega), zgd_pos (Or.inr rfl)]
    · rw [if_neg h2, if_neg (by omega), zgd_pos (Or.inl rfl)]
theorem s43 {j o : Nat} (hj : j < 6) (ho : o < 5) (σ : zSt) : zE 43 0 [some (zI j), some (zI o)] [] σ = zRI ((23 + 4 * (5 * j + o) : Nat) : Int) σ := by
  rw [X43_0]
  simp (disch := omega) only [zw_id]
  rfl
theorem s42_0 {j : Nat} (hj : j < 6) (σ : zSt) : zE 42 0 [some (zR 9), some (zI j), some (zI 0)] [] σ = zRI (rW (σ 65) j) σ := by
  rw [X42_0]
  simp (disch := omega) only [zw_id, zgd_pos]
  rw [show (5 + 3 * (j : Int) + 0).toNat = 5 + 3 * j by omega]; rfl
theorem s42_1 {j : Nat} (hj : j < 6) (σ : zSt) : zE 42 0 [some (zR 9), some (zI j), some (zI 1)] [] σ = zRI (rD (σ 65) j) σ := by
  rw [X42_0]
  simp (disch := omega) only [zw_id, zgd_pos]
  rw [show (5 + 3 * (j : Int) + 1).toNat = 6 + 3 * j by omega]; rfl
theorem s42_2 {j : Nat} (hj : j < 6) (σ : zSt) : zE 42 0 [some (zR 9), some (zI j), some (zI 2)] [] σ = zRI (rO (σ 65) j) σ := by
  rw [X42_0]
  simp (disch := omega) only [zw_id, zgd_pos]
  rw [show (5 + 3 * (j : Int) + 2).toNat = 7 + 3 * j by omega]; rfl
theorem s44_0 {j o : Nat} (hj : j < 6) (ho : o < 5) (σ : zSt) : zE 44 0 [some (zR 9), some (zI j), some (zI o), some (zI 0)] [] σ = zRI (sM (σ 65) (5 * j + o)) σ := by
  rw [X44_0, s43 hj ho, zbI_some]
  simp (disch := omega) only [zw_id, zgd_pos]
  rw [show (((23 + 4 * (5 * j + o) : Nat) : Int) + 0).toNat = 23 + 4 * (5 * j + o) by omega]; rfl
theorem s44_1 {j o : Nat} (hj : j < 6) (ho : o < 5) (σ : zSt) : zE 44 0 [some (zR 9), some (zI j), some (zI o), some (zI 1)] [] σ = zRI (sU (σ 65) (5 * j + o)) σ := by
  rw [X44_0, s43 hj ho, zbI_some]
  simp (disch := omega) only [zw_id, zgd_pos]
  rw [show (((23 + 4 * (5 * j + o) : Nat) : Int) + 1).toNat = 24 + 4 * (5 * j + o) by omega]; rfl
theorem s44_2 {j o : Nat} (hj : j < 6) (ho : o < 5) (σ : zSt) : zE 44 0 [some (zR 9), some (zI j), some (zI o), some (zI 2)] [] σ = zRI (sL (σ 65) (5 * j + o)) σ := by
  rw [X44_0, s43 hj ho, zbI_some]
  simp (disch := omega) only [zw_id, zgd_pos]
  rw [show (((23 + 4 * (5 * j + o) : Nat) : Int) + 2).toNat = 25 + 4 * (5 * j + o) by omega]; rfl
theorem s44_3 {j o : Nat} (hj : j < 6) (ho : o < 5) (σ : zSt) : zE 44 0 [some (zR 9), some (zI j), some (zI o), some (zI 3)] [] σ = zRI (sP (σ 65) (5 * j + o)) σ := by
  rw [X44_0, s43 hj ho, zbI_some]
  simp (disch := omega) only [zw_id, zgd_pos]
  rw [show (((23 + 4 * (5 * j + o) : Nat) : Int) + 3).toNat = 26 + 4 * (5 * j + o) by omega]; rfl
theorem s46_0 {b : Nat} (hb : b < 6) (σ : zSt) : zE 46 0 [some (zR 9), some (zI b), some (zI 0)] [] σ = zRI (bM (σ 65) b) σ := by
  rw [X46_0]
  simp (disch := omega) only [zw_id, zgd_pos]
  rw [show (143 + 3 * (b : Int) + 0).toNat = 143 + 3 * b by omega]; rfl
theorem s46_1 {b : Nat} (hb : b < 6) (σ : zSt) : zE 46 0 [some (zR 9), some (zI b), some (zI 1)] [] σ = zRI (bF (σ 65) b) σ := by
  rw [X46_0]
  simp (disch := omega) only [zw_id, zgd_pos]
  rw [show (143 + 3 * (b : Int) + 1).toNat = 144 + 3 * b by omega]; rfl
theorem s46_2 {b : Nat} (hb : b < 6) (σ : zSt) : zE 46 0 [some (zR 9), some (zI b), some (zI 2)] [] σ = zRI (bL (σ 65) b) σ := by
  rw [X46_0]
  simp (disch := omega) only [zw_id, zgd_pos]
  rw [show (143 + 3 * (b : Int) + 2).toNat = 145 + 3 * b by omega]; rfl
theorem s60_2 {j o : Nat} (hj : j < 6) (ho : o < 5) (σ : zSt) : zE 60 0 [some (zR 9), some (zI j), some (zI o), some (zI 2)] [] σ = zRI (zw (sL (σ 65) (5 * j + o) + sU (σ 65) (5 * j + o))) σ := by
  rw [X60_0, s44_2 hj ho, zbI_some, s44_1 hj ho, zbI_some]
theorem s60_3 {j o : Nat} (hj : j < 6) (ho : o < 5) (σ : zSt) : zE 60 0 [some (zR 9), some (zI j), some (zI o), some (zI 3)] [] σ = zRI (zw (sP (σ 65) (5 * j + o) + sU (σ 65) (5 * j + o))) σ := by
  rw [X60_0, s44_3 hj ho, zbI_some, s44_1 hj ho, zbI_some]
theorem s73 (σ : zSt) : zE 73 0 [some (zR 9)] [] σ = zRI (if σ 65 3 = 1 then 1 else 0) σ := by
  rw [X73_0]
  by_cases h : σ 65 3 = 1
  · rw [if_pos h, zgd_pos (Or.inr rfl)]
  · rw [if_neg h, zgd_pos (Or.inl rfl)]
/-- the model's hits: the end of a breakdown that is hit, or -1 -/
theorem s58 {σ : zSt} (hG : Good (σ 65)) {j o : Nat} (hl : Live (σ 65) j o) {t : Int} (ht : 0 ≤ t ∧ t ≤ 1000000) : ∃ r, zE 58 0 [some (zR 9), some (zI j), some (zI o), some (zI t), none, none, none, none, none, none] [] σ = zRI r σ ∧
    ((r = -1 ∧ ¬ Hits (σ 65) (5 * j + o) t) ∨ ∃ b : Nat, (b : Int) < σ 65 2 ∧ Hit (σ 65) (5 * j + o) t b ∧ r = bF (σ 65) b + bL (σ 65) b) := by
  have hj := hG.j6 hl.1
  have ho := hG.o5 hl
  obtain ⟨hm, hu1, hu2⟩ := hG.2.2.1 j o hl.1 hl.2
  rw [X58_0, s44_0 hj ho, zbI_some, s44_1 hj ho, zbI_some]
  simp (disch := omega) only [zw_id]
  have key : ∀ (d b : Nat) (r : Int) (o8 o9 : Option zVal), (b : Int) + d = σ 65 2 → ((r = -1 ∧ ∀ b' : Nat, b' < b → ¬ Hit (σ 65) (5 * j + o) t b') ∨ ∃ b' : Nat, (b' : Int) < σ 65 2 ∧ Hit (σ 65) (5 * j + o) t b' ∧ r = bF (σ 65) b' + bL (σ 65) b') →
      ∃ r', zE 58 26 [some (zR 9), some (zI j), some (zI o), some (zI t), some (zI (sM (σ 65) (5 * j + o))), some (zI (t + sU (σ 65) (5 * j + o))), some (zI r), some (zI b), o8, o9] [] σ = zRI r' σ ∧ ((r' = -1 ∧ ¬ Hits (σ 65) (5 * j + o) t) ∨ ∃ b : Nat, (b : Int) < σ 65 2 ∧ Hit (σ 65) (5 * j + o) t b ∧ r' = bF (σ 65) b + bL (σ 65) b) := by
    intro d
    induction d with
    | zero =>
      intro b r o8 o9 hb hr
      refine ⟨r, ?_, ?_⟩
      · rw [X58_26, if_neg (by omega)]
      · rcases hr with ⟨e, h⟩ | h
        · exact Or.inl ⟨e, fun ⟨b', h1, h2⟩ => h b' (by omega) h2⟩
        · exact Or.inr h
    | succ d ih =>
      intro b r o8 o9 hb hr
      have hbl : (b : Int) < σ 65 2 := by omega
      have hb6 := hG.b6 hbl
      obtain ⟨g1, g2, g3⟩ := hG.2.2.2 b hbl
      rw [X58_26, if_pos hbl, s46_1 hb6, zbI_some, s46_2 hb6, zbI_some, s46_0 hb6, zbI_some]
      simp (disch := omega) only [zw_id]
      have no : ¬ Hit (σ 65) (5 * j + o) t b → ∀ o8' o9', ∃ r', zE 58 26 [some (zR 9), some (zI j), some (zI o), some (zI t), some (zI (sM (σ 65) (5 * j + o))), some (zI (t + sU (σ 65) (5 * j + o))), some (zI r), some (zI ((b + 1 : Nat) : Int)), o8', o9'] [] σ = zRI r' σ ∧ ((r' = -1 ∧ ¬ Hits (σ 65) (5 * j + o) t) ∨ ∃ b : Nat, (b : Int) < σ 65 2 ∧ Hit (σ 65) (5 * j + o) t b ∧ r' = bF (σ 65) b + bL (σ 65) b) := by
        intro hn o8' o9'
        refine ih (b + 1) r o8' o9' (by omega) ?_
        rcases hr with ⟨e, h⟩ | h
        · refine Or.inl ⟨e, fun b' hb' => ?_⟩
          by_cases hc : b' = b
          · subst hc; exact hn
          · exact h b' (by omega)
        · exact Or.inr h
      by_cases c1 : bM (σ 65) b = sM (σ 65) (5 * j + o)
      · rw [if_pos c1]
        by_cases c2 : t < bF (σ 65) b + bL (σ 65) b
        · rw [if_pos c2, s46_1 hb6, zbI_some, X58_89]
          simp (disch := omega) only [zw_nat1]
          by_cases c3 : t + sU (σ 65) (5 * j + o) ≤ bF (σ 65) b
          · rw [if_pos c3, if_pos rfl]
            exact no (fun h => by have := h.2.2; omega) _ _
          · rw [if_neg c3, if_neg (by decide)]
            exact ih (b + 1) _ _ _ (by omega) (Or.inr ⟨b, hbl, ⟨c1, c2, by omega⟩, rfl⟩)
        · rw [if_neg c2, X58_88, X58_89, if_pos rfl, zw_nat1 (by omega)]
          exact no (fun h => c2 h.2.1) _ _
      · rw [if_neg c1, X58_88, X58_89, if_pos rfl, zw_nat1 (by omega)]
        exact no (fun h => c1 h.1) _ _
  have hnb := hG.1.2.2.1
  obtain ⟨n, hn⟩ : ∃ n : Nat, (n : Int) = σ 65 2 := ⟨(σ 65 2).toNat, by omega⟩
  exact key n 0 (-1) none none (by omega) (Or.inl ⟨rfl, fun b' h => by omega⟩)
/-- the model's least start -/
theorem s59 {σ : zSt} (hG : Good (σ 65)) {j o : Nat} (hl : Live (σ 65) j o) {f : Int} (hf : 0 ≤ f ∧ f ≤ 900000) : ∃ t, zE 59 0 [some (zR 9), some (zI j), some (zI o), some (zI f), none, none] [] σ = zRI t σ ∧ Lst (σ 65) (5 * j + o) f t ∧ t ≤ max f 550 := by
  obtain ⟨r, h1, h2⟩ := s58 hG hl (t := f) (by omega)
  rw [X59_0, h1, zbI_some]
  have key : ∀ (d : Nat) (s r : Int), 551 - s ≤ d → f ≤ s → s ≤ max f 550 → (∀ u : Int, f ≤ u → u < s → Hits (σ 65) (5 * j + o) u) → ((r = -1 ∧ ¬ Hits (σ 65) (5 * j + o) s) ∨ ∃ b : Nat, (b : Int) < σ 65 2 ∧ Hit (σ 65) (5 * j + o) s b ∧ r = bF (σ 65) b + bL (σ 65) b) →
      ∃ t, zE 59 13 [some (zR 9), some (zI j), some (zI o), some (zI f), some (zI s), some (zI r)] [] σ = zRI t σ ∧ Lst (σ 65) (5 * j + o) f t ∧ t ≤ max f 550 := by
    intro d
    induction d with
    | zero =>
      intro s r hd hs1 hs2 hall hr
      rcases hr with ⟨e, h⟩ | ⟨b, q1, q2, q3⟩
      · refine ⟨s, ?_, ⟨hs1, h, hall⟩, hs2⟩
        rw [X59_13, if_pos e]
      · have := q2.2.1
        obtain ⟨g1, g2, g3⟩ := hG.2.2.2 b q1
        omega
    | succ d ih =>
      intro s r hd hs1 hs2 hall hr
      rcases hr with ⟨e, h⟩ | ⟨b, q1, q2, q3⟩
      · refine ⟨s, ?_, ⟨hs1, h, hall⟩, hs2⟩
        rw [X59_13, if_pos e]
      · have q4 := q2.2.1
        obtain ⟨g1, g2, g3⟩ := hG.2.2.2 b q1
        obtain ⟨r', h3, h4⟩ := s58 hG hl (t := r) (by omega)
        rw [X59_13, if_neg (by omega), h3, zbI_some]
        refine ih r r' (by omega) (by omega) (by omega) (fun u hu1 hu2 => ?_) h4
        by_cases hc : u < s
        · exact hall u hu1 hc
        · exact q2.push q1 u (by omega) (by omega)
  exact key (551 - f).toNat f r (by omega) (Int.le_refl _) (by omega) (fun u a b => by omega) h2
