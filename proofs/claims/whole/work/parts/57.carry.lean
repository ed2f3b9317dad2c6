/-! ===== 57: the model walks the text; an order carried out ===== -/
theorem m114 {t : Nat} {T : Row} : ∀ (n a : Nat) (τ : zSt), TxM τ t T → t ≤ a + n → a ≤ t → τ 9 7 = (a : Int) → ∃ (v : Int) (τ' : zSt), zE 114 12 [some (zR 9), some (zI 1), none, none] [] τ = zE 114 35 [some (zR 9), some (zI v), none, none] [] τ' ∧ Mr τ τ' ∧ ((frP T t n a = -1 ∧ v = 1) ∨ (∃ e : Nat, frP T t n a = (e : Int) ∧ v = 0 ∧ τ' 9 7 = (e : Int))) := by
  intro n
  induction n with
  | zero =>
    intro a τ h hn ha h7
    rw [X114_12, if_neg i10, if_neg (by rw [h7, h.2.1]; omega)]
    exact ⟨1, τ, rfl, ⟨fun _ _ => rfl, rfl, rfl, rfl⟩, Or.inl ⟨rfl, rfl⟩⟩
  | succ n ih =>
    intro a τ h hn ha h7
    unfold frP
    by_cases c : a < t
    · obtain ⟨v, τ1, e1, m1, o1⟩ := m112 h h7 c
      rw [X114_12, if_neg i10, if_pos (by rw [h7, h.2.1]; omega), e1, zbI_some, if_pos c]
      rcases ho : orP T t a with ⟨k, f, s, u, d⟩ | e
      · rw [ho] at o1
        obtain ⟨w1, w2, _⟩ := o1
        have hp := orP_pos ho
        obtain ⟨v2, τ2, e2, m2, o2⟩ := ih d τ1 ⟨h.1, m1.2.1.trans h.2.1, fun i hi => by rw [m1.1 68 (by decide)]; exact h.2.2.1 i hi, h.2.2.2⟩ (by omega) hp.2.2.1 w2
        rw [w1]
        exact ⟨v2, τ2, e2, m1.trans m2, o2⟩
      · rw [ho] at o1
        obtain ⟨w1, w2⟩ := o1
        rw [w1, X114_12, if_pos rfl]
        exact ⟨0, τ1, rfl, m1, Or.inr ⟨e, rfl, rfl, w2⟩⟩
    · rw [X114_12, if_neg i10, if_neg (by rw [h7, h.2.1]; omega), if_neg c]
      exact ⟨1, τ, rfl, ⟨fun _ _ => rfl, rfl, rfl, rfl⟩, Or.inl ⟨rfl, rfl⟩⟩
