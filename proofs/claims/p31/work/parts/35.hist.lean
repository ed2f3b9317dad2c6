/-! ===== 35: saving and undoing, on both sides ===== -/
/-- what holds of a state: plans are plans up to B -/
def Ok (S : Row) (B : Int) : Prop := Good S ∧ (S 3 = 1 → Val S 2 B ∧ Val S 3 B)
def RC (σ : zSt) (S : Row) (c : Nat) (H : Nat → Row) (t : Nat) (T : Row) : Prop := ShC (shF σ 0) (shA σ 0) S ∧ (∃ n : Nat, n < 4 ∧ σ 7 1 = (n : Int) ∧ ∀ i, i < c → ShC (shF σ (1 + (n + 4 - c + i) % 4)) (shA σ (1 + (n + 4 - c + i) % 4)) (H i)) ∧ σ 7 2 = (c : Int) ∧ σ 8 1 = (t : Int) ∧ ∀ i, i < t → σ 64 i = T i
def RA (S : Row) (c : Nat) (H : Nat → Row) (t : Nat) (T : Row) (B : Int) : Prop := Ok S B ∧ c ≤ 4 ∧ (∀ i, i < c → Ok (H i) B) ∧ t ≤ 100 ∧ ∀ i, i < t → 0 ≤ T i ∧ T i ≤ 127
def pshC (c : Nat) : Nat := if c = 4 then 4 else c + 1
def pshH (c : Nat) (H : Nat → Row) (S : Row) : Nat → Row := fun i => if c = 4 then (if i < 3 then H (i + 1) else S) else if i < c then H i else S
theorem Val.up {S : Row} {p : Nat} {B B' : Int} (h : Val S p B) (hB : B ≤ B') : Val S p B' := ⟨fun j o hl => by have := h.1 j o hl; omega, h.2.1, h.2.2⟩
theorem Ok.up {S : Row} {B B' : Int} (h : Ok S B) (hB : B ≤ B') : Ok S B' := ⟨h.1, fun q => ⟨(h.2 q).1.up hB, (h.2 q).2.up hB⟩⟩
theorem Ok.req {S T : Row} {B : Int} (h : Ok S B) (e : Req S T) : Ok T B := ⟨e.good h.1, fun q => by
  rw [e 3 (by omega)] at q
  exact ⟨e.val h.1 (by omega) (h.2 q).1, e.val h.1 (by omega) (h.2 q).2⟩⟩
theorem RA.push {S : Row} {c : Nat} {H : Nat → Row} {t : Nat} {T : Row} {B B' : Int} {S' : Row} (h : RA S c H t T B) (hB : B ≤ B') (hS : Ok S' B') : RA S' (pshC c) (pshH c H S) t T B' := by
  obtain ⟨h1, h2, h3, h4⟩ := h
  refine ⟨hS, by unfold pshC; split <;> omega, fun i hi => ?_, h4⟩
  unfold pshC at hi
  unfold pshH
  by_cases c4 : c = 4
  · rw [if_pos c4] at hi ⊢
    by_cases i3 : i < 3
    · rw [if_pos i3]; exact (h3 _ (by omega)).up hB
    · rw [if_neg i3]; exact h1.up hB
  · rw [if_neg c4] at hi ⊢
    by_cases i3 : i < c
    · rw [if_pos i3]; exact (h3 _ i3).up hB
    · rw [if_neg i3]; exact h1.up hB
theorem SEq.same {σ σ' : zSt} {s : Nat} (h : ∀ k, (k = 2 + s ∨ (10 + 10 * s ≤ k ∧ k < 20 + 10 * s)) → σ' k = σ k) : SEq (shF σ s) (shA σ s) (shF σ' s) (shA σ' s) := by
  have e : ∀ q, q < 10 → shA σ' s q = shA σ s q := fun q hq => h _ (Or.inr ⟨by omega, by omega⟩)
  have e2 : shF σ' s = shF σ s := h _ (Or.inl rfl)
  rw [e2]
  refine ⟨⟨rfl, rfl, rfl, rfl, rfl⟩, fun j _ => ?_, fun i _ => ?_, fun b _ => ?_, fun i _ => ?_⟩
  · rw [e 0 (by omega), e 1 (by omega), e 2 (by omega)]; exact ⟨rfl, rfl, rfl⟩
  · rw [e 3 (by omega), e 4 (by omega)]; exact ⟨rfl, rfl⟩
  · rw [e 5 (by omega), e 6 (by omega), e 7 (by omega)]; exact ⟨rfl, rfl, rfl⟩
  · rw [e 8 (by omega), e 9 (by omega)]; exact ⟨rfl, rfl⟩
theorem zup_off {σ : zSt} {k i k' : Nat} {v : Int} (h : k' ≠ k) : (zup σ k i v) k' = σ k' := by funext j; simp [zup, h]
theorem zup_of {σ : zSt} {k i k' i' : Nat} {v : Int} (h : ¬ (k' = k ∧ i' = i)) : (zup σ k i v) k' i' = σ k' i' := by unfold zup; rw [if_neg h]
theorem RC.push {σ σ1 : zSt} {S : Row} {c : Nat} {H : Nat → Row} {t : Nat} {T : Row} {B : Int} (h1 : ShC (shF σ 0) (shA σ 0) S) (hS : Good S) {n : Nat} (hn : n < 4) (hc : c ≤ 4) (hH : ∀ i, i < c → Good (H i)) (h3 : ∀ i, i < c → ShC (shF σ (1 + (n + 4 - c + i) % 4)) (shA σ (1 + (n + 4 - c + i) % 4)) (H i)) (h4 : σ 8 1 = (t : Int)) (h5 : ∀ i, i < t → σ 64 i = T i) (cp : Cpd σ σ1 (1 + n) 0) :
    RC (zup (zup σ1 7 1 (((n + 1) % 4 : Nat) : Int)) 7 2 ((pshC c : Nat) : Int)) S (pshC c) (pshH c H S) t T := by
  have off : ∀ k, k ≠ 7 → (zup (zup σ1 7 1 (((n + 1) % 4 : Nat) : Int)) 7 2 ((pshC c : Nat) : Int)) k = σ1 k := fun k hk => by rw [zup_off hk, zup_off hk]
  obtain ⟨cp1, cp2⟩ := cp
  have sh : ∀ s, s < 5 → s ≠ 1 + n → SEq (shF σ s) (shA σ s) (shF (zup (zup σ1 7 1 (((n + 1) % 4 : Nat) : Int)) 7 2 ((pshC c : Nat) : Int)) s) (shA (zup (zup σ1 7 1 (((n + 1) % 4 : Nat) : Int)) 7 2 ((pshC c : Nat) : Int)) s) := by
    intro s hs hne
    refine SEq.same (fun k hk => ?_)
    rw [off k (by omega)]
    exact cp2 k (by omega) (by omega)
  have shn : ShC (shF (zup (zup σ1 7 1 (((n + 1) % 4 : Nat) : Int)) 7 2 ((pshC c : Nat) : Int)) (1 + n)) (shA (zup (zup σ1 7 1 (((n + 1) % 4 : Nat) : Int)) 7 2 ((pshC c : Nat) : Int)) (1 + n)) S := by
    have a1 : ShC (shF σ1 (1 + n)) (shA σ1 (1 + n)) S := h1.seq hS cp1
    refine a1.seq hS (SEq.same (fun k hk => off k (by omega)))
  refine ⟨h1.seq hS (sh 0 (by omega) (by omega)), ⟨(n + 1) % 4, by omega, ?_, fun i hi => ?_⟩, zup_at _ _ _ _, ?_, fun i hi => ?_⟩
  · rw [zup_of (by omega), zup_at]
  · unfold pshC at hi
    unfold pshH pshC
    by_cases c4 : c = 4
    · rw [if_pos c4] at hi ⊢
      rw [if_pos c4]
      by_cases i3 : i < 3
      · rw [if_pos i3]
        have a1 := h3 (i + 1) (by omega)
        rw [show (n + 4 - c + (i + 1)) % 4 = ((n + 1) % 4 + 4 - 4 + i) % 4 by omega] at a1
        have a2 := sh (1 + ((n + 1) % 4 + 4 - 4 + i) % 4) (by omega) (by omega)
        have a3 := a1.seq (hH _ (by omega)) a2
        unfold pshC at a3
        rw [if_pos c4] at a3
        exact a3
      · rw [if_neg i3, show 1 + ((n + 1) % 4 + 4 - 4 + i) % 4 = 1 + n by omega]
        unfold pshC at shn
        rw [if_pos c4] at shn
        exact shn
    · rw [if_neg c4] at hi ⊢
      rw [if_neg c4]
      by_cases i3 : i < c
      · rw [if_pos i3]
        have a1 := h3 i (by omega)
        rw [show (n + 4 - c + i) % 4 = ((n + 1) % 4 + 4 - (c + 1) + i) % 4 by omega] at a1
        have a2 := sh (1 + ((n + 1) % 4 + 4 - (c + 1) + i) % 4) (by omega) (by omega)
        have a3 := a1.seq (hH _ (by omega)) a2
        unfold pshC at a3
        rw [if_neg c4] at a3
        exact a3
      · rw [if_neg i3, show 1 + ((n + 1) % 4 + 4 - (c + 1) + i) % 4 = 1 + n by omega]
        unfold pshC at shn
        rw [if_neg c4] at shn
        exact shn
  · rw [off 8 (by omega), cp2 8 (by omega) (by omega)]; exact h4
  · rw [off 64 (by omega), cp2 64 (by omega) (by omega)]; exact h5 i hi
theorem s117 {σ : zSt} {S : Row} {c : Nat} {H : Nat → Row} {t : Nat} {T : Row} {B : Int} (h : RC σ S c H t T) (hA : RA S c H t T B) : ∃ σ', zE 117 0 [some (zR 7), some (zR 2)] [] σ = zRV σ' ∧ RC σ' S (pshC c) (pshH c H S) t T ∧ ∀ k, k ≠ 7 → (k < 3 ∨ (6 < k ∧ k < 20) ∨ 60 ≤ k) → σ' k = σ k := by
  obtain ⟨h1, ⟨n, hn, h2, h3⟩, h4, h5, h6⟩ := h
  obtain ⟨g1, g2, g3, _⟩ := hA
  have hpl : σ 2 11 = 0 ∨ σ 2 11 = 1 := by
    have e : σ 2 11 = S 3 := h1.1.2.2.2.1
    rw [e]; exact g1.1.1.2.2.2
  have fin : ∀ σ1 : zSt, Cpd σ σ1 (1 + n) 0 → ∃ σ', zbV (zRV σ1) (fun σ1 => if zw (σ1 7 1 + 1) < 4 then zE 117 34 [some (zR 7), some (zR 2)] [zI (zw (σ1 7 1 + 1)), zR 7] σ1 else zE 117 34 [some (zR 7), some (zR 2)] [zI 0, zR 7] σ1) = zRV σ' ∧ RC σ' S (pshC c) (pshH c H S) t T ∧ ∀ k, k ≠ 7 → (k < 3 ∨ (6 < k ∧ k < 20) ∨ 60 ≤ k) → σ' k = σ k := by
    intro σ1 cp
    refine ⟨_, ?_, RC.push h1 g1.1 hn g2 (fun i hi => (g3 i hi).1) h3 h5 h6 cp (B := B), fun k hk1 hk2 => ?_⟩
    · have e7 : σ1 7 = σ 7 := cp.2 7 (by omega) (by omega)
      show (if zw (σ1 7 1 + 1) < 4 then zE 117 34 [some (zR 7), some (zR 2)] [zI (zw (σ1 7 1 + 1)), zR 7] σ1 else zE 117 34 [some (zR 7), some (zR 2)] [zI 0, zR 7] σ1) = _
      have e8 : ∀ s1 : Int, zE 117 34 [some (zR 7), some (zR 2)] [zI s1, zR 7] σ1 = zRV (zup (zup σ1 7 1 s1) 7 2 ((pshC c : Nat) : Int)) := by
        intro s1
        rw [X117_34_7_2, zup_of (k' := 7) (i' := 2) (by omega), e7, h4, zw_id (by omega) (by omega)]
        have : min ((c : Int) + 1) 4 = ((pshC c : Nat) : Int) := by unfold pshC; split <;> omega
        rw [this]
      rw [e8, e8, e7, h2, zw_id (by omega) (by omega)]
      by_cases q : (n : Int) + 1 < 4
      · rw [if_pos q, show ((n : Int) + 1) = (((n + 1) % 4 : Nat) : Int) by omega]
      · rw [if_neg q, show (0 : Int) = (((n + 1) % 4 : Nat) : Int) by omega]
    · rw [zup_off hk1, zup_off hk1]
      exact cp.2 k (by omega) (by omega)
  rw [X117_0_7_2, h2]
  match n, hn with
  | 0, _ =>
    obtain ⟨σ1, e1, e2⟩ := s145_3_2 hpl
    rw [if_pos (by decide), e1]; exact fin σ1 e2
  | 1, _ =>
    obtain ⟨σ1, e1, e2⟩ := s145_4_2 hpl
    rw [if_neg (by decide), if_pos (by decide), e1]; exact fin σ1 e2
  | 2, _ =>
    obtain ⟨σ1, e1, e2⟩ := s145_5_2 hpl
    rw [if_neg (by decide), if_neg (by decide), if_pos (by decide), e1]; exact fin σ1 e2
  | 3, _ =>
    obtain ⟨σ1, e1, e2⟩ := s145_6_2 hpl
    rw [if_neg (by decide), if_neg (by decide), if_neg (by decide), if_pos (by decide), e1]; exact fin σ1 e2
