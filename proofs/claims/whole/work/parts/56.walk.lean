/-! ===== 56: the whole text, read for errors ===== -/
/-- where the text fails from a on, or -1 -/
def frP (T : Row) (t : Nat) : Nat → Nat → Int
  | 0, _ => -1
  | n + 1, a => if a < t then (match orP T t a with
    | .inl (_, _, _, _, c) => frP T t n c
    | .inr e => (e : Int)) else -1
theorem orP_pos {T : Row} {t a c : Nat} {k f s u : Int} (h : orP T t a = .inl (k, f, s, u, c)) : k = nb T t a ∧ a + 1 < c ∧ c ≤ t ∧ ∃ b, bdP T t k (a + 1) = .inl (f, s, u, b) := by
  unfold orP enP at h
  rcases hb : bdP T t (nb T t a) (a + 1) with ⟨f', s', u', b⟩ | e
  · rw [hb] at h
    dsimp only at h
    rcases hs : sgP T t 59 b with ⟨w, c'⟩ | e
    · rw [hs] at h
      dsimp only [pb] at h
      obtain ⟨y1, y2⟩ := sgP_pos hs
      have y3 := nb_lt (T := T) (t := t) (a := b) (by omega)
      cases h
      refine ⟨rfl, ?_, by omega, b, hb⟩
      unfold bdP at hb
      split at hb
      · have := jP_pos hb; omega
      · split at hb
        · have := oP_pos hb; omega
        · split at hb
          · have := kP_pos hb; omega
          · split at hb
            · have := pP_pos hb; omega
            · cases hb
    · rw [hs] at h
      dsimp only [pb] at h
      cases h
  · rw [hb] at h
    cases h
theorem c121_end {σ : zSt} {t : Nat} {T : Row} (h : TxC σ t T) (ha : σ 8 2 = (t : Int)) : zE 121 0 [some (zR 8)] [] σ = zRI 0 σ := by
  rw [X121_0, ha, h.2.1]
  by_cases c : σ 8 3 = -1
  · rw [if_pos c, if_neg (by omega)]
  · rw [if_neg c]
theorem c120 {t : Nat} {T : Row} : ∀ (n l a : Nat) (σ : zSt), TxC σ t T → l + n = 100 → t ≤ a + n → a ≤ t → σ 8 2 = (a : Int) → σ 8 3 = -1 → ∃ σ', zE 120 6 [some (zR 8), some (zI (l : Int))] [] σ = zRI (frP T t n a) σ' ∧ (∀ k, k ≠ 8 → σ' k = σ k) ∧ σ' 8 1 = σ 8 1 := by
  intro n
  induction n with
  | zero =>
    intro l a σ h hl hn ha h2 h3
    rw [X120_6, if_neg (by omega), h3]
    exact ⟨σ, rfl, fun _ _ => rfl, rfl⟩
  | succ n ih =>
    intro l a σ h hl hn ha h2 h3
    rw [X120_6, if_pos (by omega)]
    unfold frP
    by_cases c : a < t
    · obtain ⟨v, σ1, e1, f1, g1, o1⟩ := c121 h h2 h3 c
      rw [e1, zbI_some, if_pos c]
      rcases ho : orP T t a with ⟨k, f, s, u, d⟩ | e
      · rw [ho] at o1
        obtain ⟨w1, w2, w3, _⟩ := o1
        have hp := orP_pos ho
        rw [w1, if_neg i10, zw_nat1 (by omega)]
        obtain ⟨σ2, e2, f2, g2⟩ := ih (l + 1) d σ1 ⟨h.1, g1, fun i hi => by rw [f1 64 (by decide)]; exact h.2.2.1 i hi, h.2.2.2⟩ (by omega) (by omega) hp.2.2.1 w2 w3
        exact ⟨σ2, e2, fun k hk => (f2 k hk).trans (f1 k hk), g2.trans (g1.trans h.2.1.symm)⟩
      · rw [ho] at o1
        obtain ⟨w1, w2⟩ := o1
        rw [w1, if_pos rfl, w2]
        exact ⟨σ1, rfl, f1, g1.trans h.2.1.symm⟩
    · rw [if_neg c, c121_end h (by rw [h2]; omega), zbI_some, if_pos rfl, h3]
      exact ⟨σ, rfl, fun _ _ => rfl, rfl⟩
