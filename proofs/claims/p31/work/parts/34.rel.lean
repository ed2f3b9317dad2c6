/-! ===== 34: class and model tell of one state; what is saved, and undone ===== -/
/-- a class's shop, its fields F and its rows A, tells of the row S -/
def ShC (F : Row) (A : Nat → Row) (S : Row) : Prop := (F 0 = S 0 ∧ F 1 = S 1 ∧ F 7 = S 2 ∧ F 11 = S 3 ∧ F 14 = S 4) ∧ (∀ j : Nat, j < 6 → A 0 j = rW S j ∧ A 1 j = rD S j ∧ A 2 j = rO S j) ∧ (∀ i : Nat, i < 30 → A 3 i = sM S i ∧ A 4 i = sU S i) ∧ (∀ b : Nat, b < 6 → A 5 b = bM S b ∧ A 6 b = bF S b ∧ A 7 b = bL S b) ∧ (S 3 = 1 → ∀ j o, Live S j o → A 8 (5 * j + o) = sL S (5 * j + o) ∧ A 9 (5 * j + o) = sP S (5 * j + o))
/-- rows that say the same -/
def Req (S T : Row) : Prop := ∀ k : Nat, k < 161 → T k = S k
theorem Req.symm {S T : Row} (h : Req S T) : Req T S := fun k hk => (h k hk).symm
theorem Req.live {S T : Row} (h : Req S T) (hG : Good S) (j o : Nat) : Live T j o ↔ Live S j o := by
  unfold Live rO
  rw [h 1 (by omega)]
  constructor
  · rintro ⟨a, b⟩
    have := hG.j6 a
    rw [h _ (by omega)] at b; exact ⟨a, b⟩
  · rintro ⟨a, b⟩
    have := hG.j6 a
    rw [← h _ (by omega)] at b; exact ⟨a, b⟩
theorem Req.good {S T : Row} (h : Req S T) (hG : Good S) : Good T := by
  refine ⟨⟨by rw [h 0 (by omega)]; exact hG.1.1, by rw [h 1 (by omega)]; exact hG.1.2.1, by rw [h 2 (by omega)]; exact hG.1.2.2.1, by rw [h 3 (by omega)]; exact hG.1.2.2.2⟩, ?_, ?_, ?_⟩
  · intro j hj
    rw [h 1 (by omega)] at hj
    have hj6 := hG.j6 hj
    unfold rW rD rO
    rw [h _ (by omega), h _ (by omega), h _ (by omega)]
    exact hG.2.1 j hj
  · intro j o hj ho
    have hl := (h.live hG j o).mp ⟨hj, ho⟩
    have hj6 := hG.j6 hl.1
    have ho5 := hG.o5 hl
    unfold sM sU
    rw [h _ (by omega), h _ (by omega)]
    exact hG.2.2.1 j o hl.1 hl.2
  · intro b hb
    rw [h 2 (by omega)] at hb
    have hb6 := hG.b6 hb
    unfold bM bF bL
    rw [h _ (by omega), h _ (by omega), h _ (by omega)]
    exact hG.2.2.2 b hb
theorem Req.val {S T : Row} (h : Req S T) (hG : Good S) {p : Nat} (hp : p < 4) {B : Int} (hV : Val S p B) : Val T p B := by
  have e1 : ∀ j o, Live S j o → T (23 + p + 4 * (5 * j + o)) = S (23 + p + 4 * (5 * j + o)) ∧ sU T (5 * j + o) = sU S (5 * j + o) ∧ sM T (5 * j + o) = sM S (5 * j + o) := by
    intro j o hl
    have hj6 := hG.j6 hl.1
    have ho5 := hG.o5 hl
    unfold sU sM
    exact ⟨h _ (by omega), h _ (by omega), h _ (by omega)⟩
  refine ⟨fun j o hl => ?_, fun j o hl => ?_, fun j o j' o' hl hl' hm hne => ?_⟩
  · have hl2 := (h.live hG _ _).mp hl
    rw [(e1 j o hl2).1]; exact hV.1 j o hl2
  · have hl2 := (h.live hG _ _).mp hl
    have hl3 : Live S j o := ⟨hl2.1, by have := hl2.2; omega⟩
    rw [(e1 j o hl3).1, (e1 j o hl3).2.1, (e1 j (o + 1) hl2).1]; exact hV.2.1 j o hl2
  · have hl2 := (h.live hG _ _).mp hl
    have hl3 := (h.live hG _ _).mp hl'
    obtain ⟨a1, a2, a3⟩ := e1 j o hl2
    obtain ⟨b1, b2, b3⟩ := e1 j' o' hl3
    rw [a3, b3] at hm
    rw [a1, a2, b1, b2]; exact hV.2.2 j o j' o' hl2 hl3 hm hne
/-- the same of one shop in two rows -/
theorem ShC.req {F : Row} {A : Nat → Row} {S T : Row} (h : ShC F A S) (e : Req S T) (hG : Good S) : ShC F A T := by
  obtain ⟨⟨h0, h1, h2, h3, h4⟩, hj, hi, hb, hp⟩ := h
  refine ⟨⟨by rw [e 0 (by omega)]; exact h0, by rw [e 1 (by omega)]; exact h1, by rw [e 2 (by omega)]; exact h2, by rw [e 3 (by omega)]; exact h3, by rw [e 4 (by omega)]; exact h4⟩, fun j hj' => ?_, fun i hi' => ?_, fun b hb' => ?_, fun hT j o hl => ?_⟩
  · unfold rW rD rO
    rw [e _ (by omega), e _ (by omega), e _ (by omega)]; exact hj j hj'
  · unfold sM sU
    rw [e _ (by omega), e _ (by omega)]; exact hi i hi'
  · unfold bM bF bL
    rw [e _ (by omega), e _ (by omega), e _ (by omega)]; exact hb b hb'
  · have hl2 := (e.live hG _ _).mp hl
    have hj6 := hG.j6 hl2.1
    have ho5 := hG.o5 hl2
    rw [e 3 (by omega)] at hT
    unfold sL sP
    rw [e _ (by omega), e _ (by omega)]; exact hp hT j o hl2
/-- one shop as another -/
def SEq (F : Row) (A : Nat → Row) (F' : Row) (A' : Nat → Row) : Prop := (F' 0 = F 0 ∧ F' 1 = F 1 ∧ F' 7 = F 7 ∧ F' 11 = F 11 ∧ F' 14 = F 14) ∧ (∀ j : Nat, j < 6 → A' 0 j = A 0 j ∧ A' 1 j = A 1 j ∧ A' 2 j = A 2 j) ∧ (∀ i : Nat, i < 30 → A' 3 i = A 3 i ∧ A' 4 i = A 4 i) ∧ (∀ b : Nat, b < 6 → A' 5 b = A 5 b ∧ A' 6 b = A 6 b ∧ A' 7 b = A 7 b) ∧ ∀ i : Nat, i < 30 → A' 8 i = A 8 i ∧ A' 9 i = A 9 i
theorem ShC.seq {F F' : Row} {A A' : Nat → Row} {S : Row} (h : ShC F A S) (hG : Good S) (e : SEq F A F' A') : ShC F' A' S := by
  obtain ⟨⟨h0, h1, h2, h3, h4⟩, hj, hi, hb, hp⟩ := h
  obtain ⟨⟨e0, e1, e2, e3, e4⟩, ej, ei, eb, ep⟩ := e
  refine ⟨⟨e0.trans h0, e1.trans h1, e2.trans h2, e3.trans h3, e4.trans h4⟩, fun j hj' => ?_, fun i hi' => ?_, fun b hb' => ?_, fun hT j o hl => ?_⟩
  · obtain ⟨a1, a2, a3⟩ := ej j hj'
    rw [a1, a2, a3]; exact hj j hj'
  · obtain ⟨a1, a2⟩ := ei i hi'
    rw [a1, a2]; exact hi i hi'
  · obtain ⟨a1, a2, a3⟩ := eb b hb'
    rw [a1, a2, a3]; exact hb b hb'
  · have hj6 := hG.j6 hl.1
    have ho5 := hG.o5 hl
    obtain ⟨a1, a2⟩ := ep (5 * j + o) (by omega)
    rw [a1, a2]; exact hp hT j o hl
/-- shop number s: 0 the main one, 1 to 4 the saved ones -/
def shF (σ : zSt) (s : Nat) : Row := σ (2 + s)
def shA (σ : zSt) (s : Nat) : Nat → Row := fun q => σ (10 + 10 * s + q)
/-- what is kept when shop d becomes as shop a -/
def Cpd (σ σ' : zSt) (d a : Nat) : Prop := SEq (shF σ a) (shA σ a) (shF σ' d) (shA σ' d) ∧ ∀ k : Nat, k ≠ 2 + d → (k < 10 + 10 * d ∨ 20 + 10 * d ≤ k) → σ' k = σ k
theorem s145_3_2 {σ : zSt} (h : σ 2 11 = 0 ∨ σ 2 11 = 1) : ∃ σ', zE 145 0 [some (zR 3), some (zR 2)] [] σ = zRV σ' ∧ Cpd σ σ' 1 0 := by
  rw [X145_0_3_2, zgd_pos (by simpa [zup] using h)]
  refine ⟨_, rfl, ⟨⟨?_, ?_, ?_, ?_, ?_⟩, fun j hj => ⟨?_, ?_, ?_⟩, fun i hi => ⟨?_, ?_⟩, fun b hb => ⟨?_, ?_, ?_⟩, fun i hi => ⟨?_, ?_⟩⟩, fun k h1 h2 => ?_⟩
  · simp [shF, zcp, zup]
  · simp [shF, zcp, zup]
  · simp [shF, zcp, zup]
  · simp [shF, zcp, zup]
  · simp [shF, zcp, zup]
  · simp [shA, zcp, zup, hj]
  · simp [shA, zcp, zup, hj]
  · simp [shA, zcp, zup, hj]
  · simp [shA, zcp, zup, hi]
  · simp [shA, zcp, zup, hi]
  · simp [shA, zcp, zup, hb]
  · simp [shA, zcp, zup, hb]
  · simp [shA, zcp, zup, hb]
  · simp [shA, zcp, zup, hi]
  · simp [shA, zcp, zup, hi]
  · funext j
    unfold zcp zup
    repeat rw [if_neg (by omega)]
theorem s145_4_2 {σ : zSt} (h : σ 2 11 = 0 ∨ σ 2 11 = 1) : ∃ σ', zE 145 0 [some (zR 4), some (zR 2)] [] σ = zRV σ' ∧ Cpd σ σ' 2 0 := by
  rw [X145_0_4_2, zgd_pos (by simpa [zup] using h)]
  refine ⟨_, rfl, ⟨⟨?_, ?_, ?_, ?_, ?_⟩, fun j hj => ⟨?_, ?_, ?_⟩, fun i hi => ⟨?_, ?_⟩, fun b hb => ⟨?_, ?_, ?_⟩, fun i hi => ⟨?_, ?_⟩⟩, fun k h1 h2 => ?_⟩
  · simp [shF, zcp, zup]
  · simp [shF, zcp, zup]
  · simp [shF, zcp, zup]
  · simp [shF, zcp, zup]
  · simp [shF, zcp, zup]
  · simp [shA, zcp, zup, hj]
  · simp [shA, zcp, zup, hj]
  · simp [shA, zcp, zup, hj]
  · simp [shA, zcp, zup, hi]
  · simp [shA, zcp, zup, hi]
  · simp [shA, zcp, zup, hb]
  · simp [shA, zcp, zup, hb]
  · simp [shA, zcp, zup, hb]
  · simp [shA, zcp, zup, hi]
  · simp [shA, zcp, zup, hi]
  · funext j
    unfold zcp zup
    repeat rw [if_neg (by omega)]
theorem s145_5_2 {σ : zSt} (h : σ 2 11 = 0 ∨ σ 2 11 = 1) : ∃ σ', zE 145 0 [some (zR 5), some (zR 2)] [] σ = zRV σ' ∧ Cpd σ σ' 3 0 := by
  rw [X145_0_5_2, zgd_pos (by simpa [zup] using h)]
  refine ⟨_, rfl, ⟨⟨?_, ?_, ?_, ?_, ?_⟩, fun j hj => ⟨?_, ?_, ?_⟩, fun i hi => ⟨?_, ?_⟩, fun b hb => ⟨?_, ?_, ?_⟩, fun i hi => ⟨?_, ?_⟩⟩, fun k h1 h2 => ?_⟩
  · simp [shF, zcp, zup]
  · simp [shF, zcp, zup]
  · simp [shF, zcp, zup]
  · simp [shF, zcp, zup]
  · simp [shF, zcp, zup]
  · simp [shA, zcp, zup, hj]
  · simp [shA, zcp, zup, hj]
  · simp [shA, zcp, zup, hj]
  · simp [shA, zcp, zup, hi]
  · simp [shA, zcp, zup, hi]
  · simp [shA, zcp, zup, hb]
  · simp [shA, zcp, zup, hb]
  · simp [shA, zcp, zup, hb]
  · simp [shA, zcp, zup, hi]
  · simp [shA, zcp, zup, hi]
  · funext j
    unfold zcp zup
    repeat rw [if_neg (by omega)]
theorem s145_6_2 {σ : zSt} (h : σ 2 11 = 0 ∨ σ 2 11 = 1) : ∃ σ', zE 145 0 [some (zR 6), some (zR 2)] [] σ = zRV σ' ∧ Cpd σ σ' 4 0 := by
  rw [X145_0_6_2, zgd_pos (by simpa [zup] using h)]
  refine ⟨_, rfl, ⟨⟨?_, ?_, ?_, ?_, ?_⟩, fun j hj => ⟨?_, ?_, ?_⟩, fun i hi => ⟨?_, ?_⟩, fun b hb => ⟨?_, ?_, ?_⟩, fun i hi => ⟨?_, ?_⟩⟩, fun k h1 h2 => ?_⟩
  · simp [shF, zcp, zup]
  · simp [shF, zcp, zup]
  · simp [shF, zcp, zup]
  · simp [shF, zcp, zup]
  · simp [shF, zcp, zup]
  · simp [shA, zcp, zup, hj]
  · simp [shA, zcp, zup, hj]
  · simp [shA, zcp, zup, hj]
  · simp [shA, zcp, zup, hi]
  · simp [shA, zcp, zup, hi]
  · simp [shA, zcp, zup, hb]
  · simp [shA, zcp, zup, hb]
  · simp [shA, zcp, zup, hb]
  · simp [shA, zcp, zup, hi]
  · simp [shA, zcp, zup, hi]
  · funext j
    unfold zcp zup
    repeat rw [if_neg (by omega)]
