/-! ===== 55: a whole order, on the model's side ===== -/
def OrM (τ' : zSt) (v : Int) (r : OQ) : Prop := match r with
  | .inl (k, f, s, u, c) => v = 1 ∧ τ' 9 7 = (c : Int) ∧ τ' 9 8 = k ∧ τ' 9 9 = f ∧ (k ≠ 112 → τ' 9 10 = s) ∧ (k = 111 ∨ k = 100 → τ' 9 11 = u)
  | .inr e => v = 0 ∧ τ' 9 7 = (e : Int)
/-- what reading leaves as it was -/
def Mr (τ τ' : zSt) : Prop := (∀ k, k ≠ 9 → τ' k = τ k) ∧ τ' 9 6 = τ 9 6 ∧ τ' 9 4 = τ 9 4 ∧ τ' 9 0 = τ 9 0
theorem m112_fin {τ1 : zSt} {t : Nat} {T : Row} (h : TxM τ1 t T) {k : Int} (f8 : τ1 9 8 = k) {v : Int} {r : OR} (hr : BdM τ1 v k r) (hb : ∀ f s u b, r = .inl (f, s, u, b) → b ≤ 190) : ∃ v' τ', zE 112 152 [some (zR 9), some (zI v)] [] τ1 = zRI v' τ' ∧ Mr τ1 τ' ∧ OrM τ' v' (enP T t k r) := by
  rw [X112_152]
  rcases r with ⟨f, s, u, b⟩ | e
  · obtain ⟨h1, h2, h3, h4, h5⟩ := hr
    have := hb f s u b rfl
    rw [h1, if_neg i10, s106 h h2 (by omega) 59]
    unfold enP
    dsimp only
    rcases hs : sgP T t 59 b with ⟨w, c⟩ | e
    · dsimp only [pb]
      rw [zbI_some, if_neg i10, zgd_pos (Or.inr rfl)]
      exact ⟨1, _, rfl, ⟨fun k hk => zup_off hk, zup_of (by omega), zup_of (by omega), zup_of (by omega)⟩, rfl, zup_at _ _ _ _, by rw [zup_of (by omega)]; exact f8, by rw [zup_of (by omega)]; exact h3, fun q => by rw [zup_of (by omega)]; exact h4 q, fun q => by rw [zup_of (by omega)]; exact h5 q⟩
    · dsimp only [pb]
      rw [zbI_some, if_pos rfl, zgd_pos (Or.inl rfl)]
      exact ⟨0, _, rfl, ⟨fun k hk => zup_off hk, zup_of (by omega), zup_of (by omega), zup_of (by omega)⟩, rfl, zup_at _ _ _ _⟩
  · obtain ⟨h1, h2⟩ := hr
    rw [h1, if_pos rfl]
    exact ⟨0, _, rfl, ⟨fun _ _ => rfl, rfl, rfl, rfl⟩, rfl, h2⟩
