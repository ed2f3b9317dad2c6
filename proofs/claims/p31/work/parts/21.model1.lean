/-! ===== 21: the model's reads, hits, least starts ===== -/
abbrev zRI (x : Int) (σ : zSt) : Option zOut := some (.inl (some (zI x), σ))
abbrev zRV (σ : zSt) : Option zOut := some (.inl (none, σ))
theorem zw_nat1 {j : Nat} (h : j < 1000000) : zw ((j : Int) + 1) = ((j + 1 : Nat) : Int) := by
  rw [zw_id (by omega) (by omega)]; rfl
