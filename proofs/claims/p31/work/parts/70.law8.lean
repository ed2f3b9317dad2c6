/-! ===== 70: the law's run from stop to stop (written by a program) ===== -/
/-- what stands where the law calls its script's cell; N falls -/
def Inv (N k : Nat) (L : zLc) (σ : zSt) : Prop := ∃ S : Row,
  (∃ (n : Nat) (o8 o9 o10 o11 o12 : Option zVal), k = 1044 ∧ L = [some (zR 90), some (zR 0), some (zR 9), some (zR 65), some (zR 66), some (zR 67), some (zR 68), some (zI (n : Int)), o8, o9, o10, o11, o12, none, none] ∧ n < 3 ∧ J1 σ S n ∧ N = 100 + 10 * (3 - n)) ∨
  (∃ (n q : Nat) (l8 l9 : Int) (o11 o12 : Option zVal), k = 1130 ∧ L = [some (zR 90), some (zR 0), some (zR 9), some (zR 65), some (zR 66), some (zR 67), some (zR 68), some (zI (n : Int)), some (zI l8), some (zI l9), some (zI (q : Int)), o11, o12, none, none] ∧ n < 3 ∧ (q : Int) < l9 ∧ l9 ≤ 4 ∧ J1 σ S (n + 1) ∧ rO S n = q ∧ N = 100 + 10 * (2 - n) + (9 - q)) ∨
  (∃ (t : Nat) (o8 o9 o10 o11 o12 o13 o14 : Option zVal), k = 1250 ∧ L = [some (zR 90), some (zR 0), some (zR 9), some (zR 65), some (zR 66), some (zR 67), some (zR 68), some (zI (t : Int)), o8, o9, o10, o11, o12, o13, o14] ∧ t < 9 ∧ J2 σ S (1150 + 600 * (t : Int)) t ∧ N = 2 * (9 - t) + 1) ∨
  (∃ (t : Nat) (l8 : Int) (o9 o10 o11 o12 o13 o14 : Option zVal), k = 1263 ∧ L = [some (zR 90), some (zR 0), some (zR 9), some (zR 65), some (zR 66), some (zR 67), some (zR 68), some (zI (t : Int)), some (zI l8), o9, o10, o11, o12, o13, o14] ∧ t < 9 ∧ J2 σ S (1150 + 600 * (t : Int)) t ∧ N = 2 * (9 - t))
section LAWJ
variable {σ : zSt} {S : Row} {B : Int}
theorem at243 {t N : Nat} (h : J2 σ S (1150 + 600 * (t : Int)) t) (ht : t ≤ 9) (hN : 2 * (9 - t) + 1 < N) (o8 o9 o10 o11 o12 o13 o14 : Option zVal) : (∃ σ' : zSt, zE 187 243 [some (zR 90), some (zR 0), some (zR 9), some (zR 65), some (zR 66), some (zR 67), some (zR 68), some (zI (t : Int)), o8, o9, o10, o11, o12, o13, o14] [] σ = zRI 1 σ') ∨ ∃ (N' k' : Nat) (L' : zLc) (σ' : zSt), N' < N ∧ zE 187 243 [some (zR 90), some (zR 0), some (zR 9), some (zR 65), some (zR 66), some (zR 67), some (zR 68), some (zI (t : Int)), o8, o9, o10, o11, o12, o13, o14] [] σ = some (.inr ((k', L'), σ')) ∧ Inv N' k' L' σ' := by
  rw [X187_243]
  by_cases c : t < 9
  · rw [if_pos (by omega)]
    exact Or.inr ⟨2 * (9 - t) + 1, _, _, σ, hN, rfl, S, Or.inr (Or.inr (Or.inl ⟨t, o8, o9, o10, o11, o12, o13, o14, rfl, rfl, c, h, rfl⟩))⟩
  · rw [if_neg (by omega)]
    exact Or.inl ⟨σ, rfl⟩
theorem at38 {n N : Nat} (h : J1 σ S n) (hn : n ≤ 3) (hN : 100 + 10 * (3 - n) < N) (o8 o9 o10 o11 o12 : Option zVal) : (∃ σ' : zSt, zE 187 38 [some (zR 90), some (zR 0), some (zR 9), some (zR 65), some (zR 66), some (zR 67), some (zR 68), some (zI (n : Int)), o8, o9, o10, o11, o12, none, none] [] σ = zRI 1 σ') ∨ ∃ (N' k' : Nat) (L' : zLc) (σ' : zSt), N' < N ∧ zE 187 38 [some (zR 90), some (zR 0), some (zR 9), some (zR 65), some (zR 66), some (zR 67), some (zR 68), some (zI (n : Int)), o8, o9, o10, o11, o12, none, none] [] σ = some (.inr ((k', L'), σ')) ∧ Inv N' k' L' σ' := by
  rw [X187_38]
  by_cases c : n < 3
  · rw [if_pos (by omega)]
    exact Or.inr ⟨100 + 10 * (3 - n), _, _, σ, hN, rfl, S, Or.inl ⟨n, o8, o9, o10, o11, o12, rfl, rfl, c, h, rfl⟩⟩
  · have : n = 3 := by omega
    subst this
    rw [if_neg (by omega)]
    exact at243 (t := 0) h.j2 (by omega) (by omega) o8 o9 o10 o11 o12 none none
theorem at123 {n q N : Nat} {l8 l9 : Int} (h : J1 σ S (n + 1)) (hn : n < 3) (hq : rO S n = q) (h9 : (q : Int) ≤ l9 ∧ l9 ≤ 4) (hN : 100 + 10 * (2 - n) + (9 - q) < N) (o11 o12 : Option zVal) : (∃ σ' : zSt, zE 187 123 [some (zR 90), some (zR 0), some (zR 9), some (zR 65), some (zR 66), some (zR 67), some (zR 68), some (zI (n : Int)), some (zI l8), some (zI l9), some (zI (q : Int)), o11, o12, none, none] [] σ = zRI 1 σ') ∨ ∃ (N' k' : Nat) (L' : zLc) (σ' : zSt), N' < N ∧ zE 187 123 [some (zR 90), some (zR 0), some (zR 9), some (zR 65), some (zR 66), some (zR 67), some (zR 68), some (zI (n : Int)), some (zI l8), some (zI l9), some (zI (q : Int)), o11, o12, none, none] [] σ = some (.inr ((k', L'), σ')) ∧ Inv N' k' L' σ' := by
  rw [X187_123]
  by_cases c : (q : Int) < l9
  · rw [if_pos c]
    exact Or.inr ⟨100 + 10 * (2 - n) + (9 - q), _, _, σ, hN, rfl, S, Or.inr (Or.inl ⟨n, q, l8, l9, o11, o12, rfl, rfl, hn, c, h9.2, h, hq, rfl⟩)⟩
  · have nx : zw ((n : Int) + 1) = ((n + 1 : Nat) : Int) := zw_nat1 (by omega)
    rw [if_neg c, nx]
    exact at38 h (by omega) (by omega) _ _ _ _ _
/-- where the law goes on behind the cell's answer -/
def nxk (k : Nat) : Nat := if k = 1044 then 50 else if k = 1130 then 143 else if k = 1250 then 261 else 274
theorem inv_go {N k : Nat} {L : zLc} (h : Inv N k L σ) (v : Int) : (∃ σ' : zSt, zE 187 (nxk k) L [zI v] σ = zRI 1 σ') ∨ ∃ (N' k' : Nat) (L' : zLc) (σ' : zSt), N' < N ∧ zE 187 (nxk k) L [zI v] σ = some (.inr ((k', L'), σ')) ∧ Inv N' k' L' σ' := by
  obtain ⟨S, (⟨n, o8, o9, o10, o11, o12, rfl, rfl, hn, hJ, rfl⟩ | ⟨n, q, l8, l9, o11, o12, rfl, rfl, hn, hq, h4, hJ, hr, rfl⟩ | ⟨t, o8, o9, o10, o11, o12, o13, o14, rfl, rfl, ht, hJ, rfl⟩ | ⟨t, l8, o9, o10, o11, o12, o13, o14, rfl, rfl, ht, hJ, rfl⟩)⟩ := h
  · obtain ⟨r4, σ', S', r0, r1, e, hJ', hr⟩ := q187_50 hJ hn v o8 o9 o10 o11 o12
    have e' : zE 187 (nxk 1044) [some (zR 90), some (zR 0), some (zR 9), some (zR 65), some (zR 66), some (zR 67), some (zR 68), some (zI (n : Int)), o8, o9, o10, o11, o12, none, none] [zI v] σ = _ := e
    rw [e']
    exact at123 (q := 0) hJ' hn hr (by omega) (by omega) o11 o12
  · obtain ⟨x11, x12, σ', S', e, hJ', hr'⟩ := q187_143 hJ hn (by omega) hr l8 l9 v o11 o12
    have e' : zE 187 (nxk 1130) [some (zR 90), some (zR 0), some (zR 9), some (zR 65), some (zR 66), some (zR 67), some (zR 68), some (zI (n : Int)), some (zI l8), some (zI l9), some (zI (q : Int)), o11, o12, none, none] [zI v] σ = _ := e
    rw [e']
    exact at123 (q := q + 1) hJ' hn hr' (by omega) (by omega) _ _
  · have e' : zE 187 (nxk 1250) [some (zR 90), some (zR 0), some (zR 9), some (zR 65), some (zR 66), some (zR 67), some (zR 68), some (zI (t : Int)), o8, o9, o10, o11, o12, o13, o14] [zI v] σ = _ := X187_261 _ _ _ _ _ _ _ _ _ _
    rw [e']
    exact Or.inr ⟨2 * (9 - t), _, _, σ, by omega, rfl, S, Or.inr (Or.inr (Or.inr ⟨t, v, o9, o10, o11, o12, o13, o14, rfl, rfl, ht, hJ, rfl⟩))⟩
  · obtain ⟨y9, y10, y11, y12, y13, y14, σ', S', e, hJ'⟩ := q187_274 (l8 := l8) (o13 := o13) (o14 := o14) hJ (by omega) ht v o9 o10 o11 o12
    have e' : zE 187 (nxk 1263) [some (zR 90), some (zR 0), some (zR 9), some (zR 65), some (zR 66), some (zR 67), some (zR 68), some (zI (t : Int)), some (zI l8), o9, o10, o11, o12, o13, o14] [zI v] σ = _ := e
    rw [e']
    exact at243 (t := t + 1) (hJ'.up (by omega) (Nat.le_refl _)) (by omega) (by omega) _ _ _ _ _ _ _
theorem inv_0 (h : J1 σ S 0) : ∃ (N k : Nat) (L : zLc), zE 187 35 [some (zR 90), some (zR 0), some (zR 9), some (zR 65), some (zR 66), some (zR 67), some (zR 68), none, none, none, none, none, none, none, none] [] σ = some (.inr ((k, L), σ)) ∧ Inv N k L σ := by
  refine ⟨130, 1044, [some (zR 90), some (zR 0), some (zR 9), some (zR 65), some (zR 66), some (zR 67), some (zR 68), some (zI ((0 : Nat) : Int)), none, none, none, none, none, none, none], ?_, S, Or.inl ⟨0, none, none, none, none, none, rfl, rfl, by omega, h, rfl⟩⟩
  rw [X187_35, X187_38, if_pos (by decide)]
  rfl
/-- the script, and the numbers that the cell is asked for -/
theorem inv_l {N k : Nat} {L : zLc} (h : Inv N k L σ) : k = 1044 ∨ k = 1130 ∨ k = 1250 ∨ k = 1263 := by
  obtain ⟨S, (⟨n, o8, o9, o10, o11, o12, rfl, _⟩ | ⟨n, q, l8, l9, o11, o12, rfl, _⟩ | ⟨t, o8, o9, o10, o11, o12, o13, o14, rfl, _⟩ | ⟨t, l8, o9, o10, o11, o12, o13, o14, rfl, _⟩)⟩ := h
  · exact Or.inl rfl
  · exact Or.inr (Or.inl rfl)
  · exact Or.inr (Or.inr (Or.inl rfl))
  · exact Or.inr (Or.inr (Or.inr rfl))
end LAWJ
