/-! ===== 37: the face calls: what class and model answer alike ===== -/
def FC (σ σ' : zSt) : Prop := σ' 9 = σ 9 ∧ ∀ k : Nat, 65 ≤ k → σ' k = σ k
theorem FC.rf (σ : zSt) : FC σ σ := ⟨rfl, fun _ _ => rfl⟩
theorem FC.trans {a b c : zSt} (h : FC a b) (h' : FC b c) : FC a c := ⟨h'.1.trans h.1, fun k hk => (h'.2 k hk).trans (h.2 k hk)⟩
theorem FC.zup {σ : zSt} {k i : Nat} {v : Int} (hk : k < 65 ∧ k ≠ 9) : FC σ (zup σ k i v) := ⟨zup_off (by omega), fun k' h => zup_off (by omega)⟩
theorem FC.fr3 {σ σ' : zSt} (h : Fr3 σ σ') : FC σ σ' := ⟨h 9 (by decide) (by decide) (by decide), fun k hk => h k (by omega) (by omega) (by omega)⟩
theorem RC.frame {σ σ' : zSt} {S : Row} {c : Nat} {H : Nat → Row} {t : Nat} {T : Row} {B : Int} (h : RC σ S c H t T) (hA : RA S c H t T B) (e : ∀ k, (2 ≤ k ∧ k ≤ 8) ∨ (10 ≤ k ∧ k < 60) ∨ k = 64 → σ' k = σ k) : RC σ' S c H t T := by
  obtain ⟨h1, ⟨n, hn, h2, h3⟩, h4, h5, h6⟩ := h
  refine ⟨h1.seq hA.1.1 (SEq.same (fun k hk => e k (by omega))), ⟨n, hn, by rw [e 7 (by omega)]; exact h2, fun i hi => (h3 i hi).seq (hA.2.2.1 i hi).1 (SEq.same (fun k hk => e k (by omega)))⟩, by rw [e 7 (by omega)]; exact h4, by rw [e 8 (by omega)]; exact h5, fun i hi => by rw [e 64 (by omega)]; exact h6 i hi⟩
/-- the main shop changes, nothing else that is told -/
theorem RC.main {σ σ' : zSt} {S S' : Row} {c : Nat} {H : Nat → Row} {t : Nat} {T : Row} {B : Int} (h : RC σ S c H t T) (hH : ∀ i, i < c → Ok (H i) B) (e : ∀ k, (3 ≤ k ∧ k ≤ 8) ∨ (20 ≤ k ∧ k < 60) ∨ k = 64 → σ' k = σ k) (hS : ShC (shF σ' 0) (shA σ' 0) S') : RC σ' S' c H t T := by
  obtain ⟨h1, ⟨n, hn, h2, h3⟩, h4, h5, h6⟩ := h
  exact ⟨hS, ⟨n, hn, by rw [e 7 (by omega)]; exact h2, fun i hi => (h3 i hi).seq (hH i hi).1 (SEq.same (fun k hk => e k (by omega)))⟩, by rw [e 7 (by omega)]; exact h4, by rw [e 8 (by omega)]; exact h5, fun i hi => by rw [e 64 (by omega)]; exact h6 i hi⟩
/-! checks -/
theorem s33 (a b c : Int) (σ : zSt) : zE 33 0 [some (zI a), some (zI b), some (zI c)] [] σ = zRI (if b ≤ a ∧ a ≤ c then 1 else 0) σ := by
  rw [X33_0]
  by_cases h1 : b ≤ a
  · by_cases h2 : a ≤ c
    · rw [if_pos h1, if_pos h2, if_pos ⟨h1, h2⟩, zgd_pos (Or.inr rfl)]
    · rw [if_pos h1, if_neg h2, if_neg (fun q => h2 q.2), zgd_pos (Or.inl rfl)]
  · rw [if_neg h1, if_neg (fun q => h1 q.1), zgd_pos (Or.inl rfl)]
theorem ite01 (p : Prop) [Decidable p] : (if p then (1 : Int) else 0) = 0 ∨ (if p then (1 : Int) else 0) = 1 := by
  by_cases h : p
  · rw [if_pos h]; exact Or.inr rfl
  · rw [if_neg h]; exact Or.inl rfl
theorem s34 (a : Int) (σ : zSt) : zE 34 0 [some (zI a)] [] σ = zRI (if 0 ≤ a ∧ a ≤ 3 then 1 else 0) σ := by
  rw [X34_0, s33, zbI_some, zgd_pos (ite01 _)]
theorem lt01 (a b : Int) (σ : zSt) : (if a < 0 then zRI 0 σ else zgd ((if a < b then (1 : Int) else 0) = 0 ∨ (if a < b then (1 : Int) else 0) = 1) (zRI (if a < b then 1 else 0) σ)) = zRI (if 0 ≤ a ∧ a < b then 1 else 0) σ := by
  by_cases h : a < 0
  · rw [if_pos h, if_neg (by omega)]
  · rw [if_neg h, zgd_pos (ite01 _)]
    by_cases h2 : a < b
    · rw [if_pos h2, if_pos (by omega)]
    · rw [if_neg h2, if_neg (by omega)]
theorem s146 (a : Int) (σ : zSt) : zE 146 0 [some (zR 2), some (zI a)] [] σ = zRI (if 0 ≤ a ∧ a < σ 2 0 then 1 else 0) σ := by
  rw [X146_0]; exact lt01 _ _ _
theorem s147 (a : Int) (σ : zSt) : zE 147 0 [some (zR 2), some (zI a)] [] σ = zRI (if 0 ≤ a ∧ a < σ 2 1 then 1 else 0) σ := by
  rw [X147_0]; exact lt01 _ _ _
theorem s148 {a b : Int} {σ : zSt} (h6 : σ 2 1 ≤ 6) : zE 148 0 [some (zR 2), some (zI a), some (zI b)] [] σ = zRI (if (0 ≤ a ∧ a < σ 2 1) ∧ 0 ≤ b ∧ b < σ 12 a.toNat then 1 else 0) σ := by
  rw [X148_0, s147, zbI_some]
  by_cases h1 : 0 ≤ a ∧ a < σ 2 1
  · rw [if_pos h1, if_neg (by decide), zgd_pos (by omega)]
    have e := lt01 b (σ 12 a.toNat) σ
    refine e.trans ?_
    by_cases h2 : 0 ≤ b ∧ b < σ 12 a.toNat
    · rw [if_pos h2, if_pos ⟨h1, h2⟩]
    · rw [if_neg h2, if_neg (fun q => h2 q.2)]
  · rw [if_neg h1, if_pos rfl, if_neg (fun q => h1 q.1)]
theorem s150 (σ : zSt) : zE 150 0 [some (zR 2)] [] σ = zRI (if σ 2 1 < 6 then 1 else 0) σ := by
  rw [X150_0, zgd_pos (ite01 _)]
theorem s152 (σ : zSt) : zE 152 0 [some (zR 2)] [] σ = zRI (if σ 2 7 < 6 then 1 else 0) σ := by
  rw [X152_0, zgd_pos (ite01 _)]
theorem s151 {j : Nat} (hj : j < 6) (σ : zSt) : zE 151 0 [some (zR 2), some (zI j)] [] σ = zRI (if σ 12 j < 5 then 1 else 0) σ := by
  rw [X151_0, toNat_n, zgd_pos (by omega), zgd_pos (ite01 _)]
