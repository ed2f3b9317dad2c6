/-! ===== 38: the rows after begin, addJob, addOperation, breakDown, repaired, bargain, overtime ===== -/
theorem rset_of {S : Row} {i k : Nat} {v : Int} (h : k ≠ i) : rset S i v k = S k := if_neg h
theorem rset_eq {S : Row} {i k : Nat} {v : Int} (h : k = i) : rset S i v k = v := if_pos h
def jobS (S : Row) (w d : Int) : Row := rset (rset (rset (rset (rset S (5 + 3 * (S 1).toNat) w) (6 + 3 * (S 1).toNat) d) (7 + 3 * (S 1).toNat) 0) 1 (S 1 + 1)) 3 0
def opS (S : Row) (j : Nat) (m u : Int) : Row := rset (rset (rset (rset S (23 + 4 * (5 * j + nO S j)) m) (24 + 4 * (5 * j + nO S j)) u) (7 + 3 * j) (rO S j + 1)) 3 0
def brkS (S : Row) (m f l : Int) : Row := rset (rset (rset (rset S (143 + 3 * (S 2).toNat) m) (144 + 3 * (S 2).toNat) f) (145 + 3 * (S 2).toNat) l) 2 (S 2 + 1)
def repS (S : Row) : Row := rset S 2 (S 2 - 1)
def barS (S : Row) (j : Nat) (x : Int) : Row := rset (rset S (6 + 3 * j) (rD S j + x)) 4 (zw (S 4 + zw (x * rW S j)))
def ovtS (S : Row) (j o : Nat) : Row := rset (rset (rset S (24 + 4 * (5 * j + o)) (sU S (5 * j + o) - 1)) 4 (zw (S 4 + 3))) 3 0
/-- Val looks at the operations only -/
theorem Val.keep {S T : Row} {p : Nat} {B : Int} (h : Val S p B) (hp : p < 4) (hG : Good S) (h1 : T 1 = S 1) (h2 : ∀ j, j < 6 → rO T j = rO S j) (h3 : ∀ k, 23 ≤ k → k < 143 → T k = S k) : Val T p B := by
  have hl : ∀ j o, Live T j o → Live S j o := by
    rintro j o ⟨a, b⟩
    rw [h1] at a
    rw [h2 j (hG.j6 a)] at b
    exact ⟨a, b⟩
  have e : ∀ j o, Live S j o → T (23 + p + 4 * (5 * j + o)) = S (23 + p + 4 * (5 * j + o)) ∧ sU T (5 * j + o) = sU S (5 * j + o) ∧ sM T (5 * j + o) = sM S (5 * j + o) := by
    intro j o hl
    have hj6 := hG.j6 hl.1
    have ho5 := hG.o5 hl
    unfold sU sM
    exact ⟨h3 _ (by omega) (by omega), h3 _ (by omega) (by omega), h3 _ (by omega) (by omega)⟩
  refine ⟨fun j o q => ?_, fun j o q => ?_, fun j o j' o' q q' hm hne => ?_⟩
  · rw [(e j o (hl j o q)).1]; exact h.1 j o (hl j o q)
  · have hl2 := hl j _ q
    have hl3 : Live S j o := ⟨hl2.1, by have := hl2.2; omega⟩
    rw [(e j o hl3).1, (e j o hl3).2.1, (e j (o + 1) hl2).1]; exact h.2.1 j o hl2
  · obtain ⟨a1, a2, a3⟩ := e j o (hl j o q)
    obtain ⟨b1, b2, b3⟩ := e j' o' (hl j' o' q')
    rw [a3, b3] at hm
    rw [a1, a2, b1, b2]; exact h.2.2 j o j' o' (hl j o q) (hl j' o' q') hm hne
theorem Ok.un {S : Row} {B : Int} (h : Good S) (h3 : S 3 = 0) : Ok S B := ⟨h, fun q => by rw [h3] at q; cases q⟩
theorem jobS_ok {S : Row} (hG : Good S) {w d B : Int} (hw : 1 ≤ w ∧ w ≤ 9) (hd : 0 ≤ d ∧ d ≤ 999) (h6 : S 1 < 6) : Ok (jobS S w d) B := by
  have h1 := hG.1.2.1
  obtain ⟨n, hn⟩ : ∃ n : Nat, S 1 = (n : Int) := ⟨(S 1).toNat, by omega⟩
  have hn2 : (S 1).toNat = n := by omega
  have off : ∀ k, k ≠ 5 + 3 * n → k ≠ 6 + 3 * n → k ≠ 7 + 3 * n → k ≠ 1 → k ≠ 3 → jobS S w d k = S k := by
    intro k a1 a2 a3 a4 a5
    unfold jobS
    rw [hn2, rset_of a5, rset_of a4, rset_of a3, rset_of a2, rset_of a1]
  have e1 : jobS S w d 1 = S 1 + 1 := by
    unfold jobS
    rw [rset_of (by omega), rset_eq rfl]
  have e3 : jobS S w d 3 = 0 := rset_eq rfl
  have ew : rW (jobS S w d) n = w := by
    unfold rW jobS
    rw [hn2, rset_of (by omega), rset_of (by omega), rset_of (by omega), rset_of (by omega), rset_eq rfl]
  have ed : rD (jobS S w d) n = d := by
    unfold rD jobS
    rw [hn2, rset_of (by omega), rset_of (by omega), rset_of (by omega), rset_eq rfl]
  have eo : rO (jobS S w d) n = 0 := by
    unfold rO jobS
    rw [hn2, rset_of (by omega), rset_of (by omega), rset_eq rfl]
  refine Ok.un ⟨⟨by rw [off 0 (by omega) (by omega) (by omega) (by omega) (by omega)]; exact hG.1.1, by rw [e1]; omega, by rw [off 2 (by omega) (by omega) (by omega) (by omega) (by omega)]; exact hG.1.2.2.1, Or.inl e3⟩, fun j hj => ?_, fun j o hj ho => ?_, fun b hb => ?_⟩ e3
  · rw [e1] at hj
    by_cases c : j = n
    · rw [c, ew, ed, eo]; omega
    · unfold rW rD rO
      rw [off _ (by omega) (by omega) (by omega) (by omega) (by omega), off _ (by omega) (by omega) (by omega) (by omega) (by omega), off _ (by omega) (by omega) (by omega) (by omega) (by omega)]
      exact hG.2.1 j (by omega)
  · rw [e1] at hj
    by_cases c : j = n
    · rw [c, eo] at ho; omega
    · have hjl : (j : Int) < S 1 := by omega
      unfold rO at ho
      rw [off _ (by omega) (by omega) (by omega) (by omega) (by omega)] at ho
      unfold sM sU
      rw [off _ (by omega) (by omega) (by omega) (by omega) (by omega), off _ (by omega) (by omega) (by omega) (by omega) (by omega)]
      exact hG.2.2.1 j o hjl ho
  · rw [off 2 (by omega) (by omega) (by omega) (by omega) (by omega)] at hb
    unfold bM bF bL
    rw [off _ (by omega) (by omega) (by omega) (by omega) (by omega), off _ (by omega) (by omega) (by omega) (by omega) (by omega), off _ (by omega) (by omega) (by omega) (by omega) (by omega)]
    exact hG.2.2.2 b hb
theorem opS_ok {S : Row} (hG : Good S) {j : Nat} (hj : (j : Int) < S 1) {m u B : Int} (hm : 0 ≤ m ∧ m < 5) (hu : 1 ≤ u ∧ u ≤ 20) (h5 : rO S j < 5) : Ok (opS S j m u) B := by
  have hj6 := hG.j6 hj
  have h1 := (hG.2.1 j hj).2.2
  obtain ⟨n, hn⟩ : ∃ n : Nat, rO S j = (n : Int) := ⟨(rO S j).toNat, by omega⟩
  have hn2 : nO S j = n := by unfold nO; omega
  have off : ∀ k, k ≠ 23 + 4 * (5 * j + n) → k ≠ 24 + 4 * (5 * j + n) → k ≠ 7 + 3 * j → k ≠ 3 → opS S j m u k = S k := by
    intro k a1 a2 a3 a4
    unfold opS
    rw [hn2, rset_of a4, rset_of a3, rset_of a2, rset_of a1]
  have e3 : opS S j m u 3 = 0 := rset_eq rfl
  have em : sM (opS S j m u) (5 * j + n) = m := by
    unfold sM opS
    rw [hn2, rset_of (by omega), rset_of (by omega), rset_of (by omega), rset_eq rfl]
  have eu : sU (opS S j m u) (5 * j + n) = u := by
    unfold sU opS
    rw [hn2, rset_of (by omega), rset_of (by omega), rset_eq rfl]
  have eo : rO (opS S j m u) j = rO S j + 1 := by
    show opS S j m u (7 + 3 * j) = _
    unfold opS
    rw [rset_of (by omega), rset_eq rfl]
  have e1 : opS S j m u 1 = S 1 := off 1 (by omega) (by omega) (by omega) (by omega)
  have e2 : opS S j m u 2 = S 2 := off 2 (by omega) (by omega) (by omega) (by omega)
  refine Ok.un ⟨⟨by rw [off 0 (by omega) (by omega) (by omega) (by omega)]; exact hG.1.1, by rw [e1]; exact hG.1.2.1, by rw [e2]; exact hG.1.2.2.1, Or.inl e3⟩, fun j' hj' => ?_, fun j' o hj' ho => ?_, fun b hb => ?_⟩ e3
  · rw [e1] at hj'
    have hj'6 := hG.j6 hj'
    have g := hG.2.1 j' hj'
    have ew : rW (opS S j m u) j' = rW S j' := off _ (by omega) (by omega) (by omega) (by omega)
    have ed : rD (opS S j m u) j' = rD S j' := off _ (by omega) (by omega) (by omega) (by omega)
    rw [ew, ed]
    refine ⟨g.1, g.2.1, ?_⟩
    by_cases c : j' = j
    · rw [c, eo]; omega
    · have : rO (opS S j m u) j' = rO S j' := off _ (by omega) (by omega) (by omega) (by omega)
      rw [this]; exact g.2.2
  · rw [e1] at hj'
    have hj'6 := hG.j6 hj'
    by_cases c : j' = j ∧ o = n
    · rw [c.1, c.2, em, eu]; exact ⟨hm, hu⟩
    · have ho' : (o : Int) < rO S j' := by
        by_cases c2 : j' = j
        · rw [c2] at ho ⊢
          rw [eo] at ho; omega
        · have : rO (opS S j m u) j' = rO S j' := off _ (by omega) (by omega) (by omega) (by omega)
          rw [this] at ho; exact ho
      have ho5 := hG.o5 ⟨hj', ho'⟩
      have em' : sM (opS S j m u) (5 * j' + o) = sM S (5 * j' + o) := off _ (by omega) (by omega) (by omega) (by omega)
      have eu' : sU (opS S j m u) (5 * j' + o) = sU S (5 * j' + o) := off _ (by omega) (by omega) (by omega) (by omega)
      rw [em', eu']; exact hG.2.2.1 j' o hj' ho'
  · rw [e2] at hb
    unfold bM bF bL
    rw [off _ (by omega) (by omega) (by omega) (by omega), off _ (by omega) (by omega) (by omega) (by omega), off _ (by omega) (by omega) (by omega) (by omega)]
    exact hG.2.2.2 b hb
theorem brkS_ok {S : Row} {B : Int} (hO : Ok S B) {m f l : Int} (hm : 0 ≤ m ∧ m < 5) (hf : 0 ≤ f ∧ f ≤ 500) (hl : 1 ≤ l ∧ l ≤ 50) (h6 : S 2 < 6) : Ok (brkS S m f l) B := by
  have hG := hO.1
  have h1 := hG.1.2.2.1
  obtain ⟨n, hn⟩ : ∃ n : Nat, S 2 = (n : Int) := ⟨(S 2).toNat, by omega⟩
  have hn2 : (S 2).toNat = n := by omega
  have off : ∀ k, k ≠ 143 + 3 * n → k ≠ 144 + 3 * n → k ≠ 145 + 3 * n → k ≠ 2 → brkS S m f l k = S k := by
    intro k a1 a2 a3 a4
    unfold brkS
    rw [hn2, rset_of a4, rset_of a3, rset_of a2, rset_of a1]
  have e2 : brkS S m f l 2 = S 2 + 1 := rset_eq rfl
  have em : bM (brkS S m f l) n = m := by
    unfold bM brkS
    rw [hn2, rset_of (by omega), rset_of (by omega), rset_of (by omega), rset_eq rfl]
  have ef : bF (brkS S m f l) n = f := by
    unfold bF brkS
    rw [hn2, rset_of (by omega), rset_of (by omega), rset_eq rfl]
  have el : bL (brkS S m f l) n = l := by
    unfold bL brkS
    rw [hn2, rset_of (by omega), rset_eq rfl]
  have lo : ∀ k, k < 143 → k ≠ 2 → brkS S m f l k = S k := fun k a1 a2 => off k (by omega) (by omega) (by omega) a2
  refine ⟨⟨⟨by rw [lo 0 (by omega) (by omega)]; exact hG.1.1, by rw [lo 1 (by omega) (by omega)]; exact hG.1.2.1, by rw [e2]; omega, by rw [lo 3 (by omega) (by omega)]; exact hG.1.2.2.2⟩, fun j hj => ?_, fun j o hj ho => ?_, fun b hb => ?_⟩, fun q => ?_⟩
  · rw [lo 1 (by omega) (by omega)] at hj
    have hj6 := hG.j6 hj
    unfold rW rD rO
    rw [lo _ (by omega) (by omega), lo _ (by omega) (by omega), lo _ (by omega) (by omega)]
    exact hG.2.1 j hj
  · rw [lo 1 (by omega) (by omega)] at hj
    have hj6 := hG.j6 hj
    have e : rO (brkS S m f l) j = rO S j := lo _ (by omega) (by omega)
    rw [e] at ho
    have ho5 := hG.o5 ⟨hj, ho⟩
    unfold sM sU
    rw [lo _ (by omega) (by omega), lo _ (by omega) (by omega)]
    exact hG.2.2.1 j o hj ho
  · rw [e2] at hb
    by_cases c : b = n
    · rw [c, em, ef, el]; exact ⟨hm, hf, hl⟩
    · unfold bM bF bL
      rw [off _ (by omega) (by omega) (by omega) (by omega), off _ (by omega) (by omega) (by omega) (by omega), off _ (by omega) (by omega) (by omega) (by omega)]
      exact hG.2.2.2 b (by omega)
  · rw [lo 3 (by omega) (by omega)] at q
    obtain ⟨v1, v2⟩ := hO.2 q
    have k1 : ∀ j, j < 6 → rO (brkS S m f l) j = rO S j := fun j hj => lo _ (by omega) (by omega)
    exact ⟨v1.keep (by omega) hG (lo 1 (by omega) (by omega)) k1 (fun k _ h => lo k h (by omega)), v2.keep (by omega) hG (lo 1 (by omega) (by omega)) k1 (fun k _ h => lo k h (by omega))⟩
theorem repS_ok {S : Row} {B : Int} (hO : Ok S B) (h : 0 < S 2) : Ok (repS S) B := by
  have hG := hO.1
  have off : ∀ k, k ≠ 2 → repS S k = S k := fun k hk => rset_of hk
  have e2 : repS S 2 = S 2 - 1 := rset_eq rfl
  have h2 := hG.1.2.2.1
  refine ⟨⟨⟨by rw [off 0 (by omega)]; exact hG.1.1, by rw [off 1 (by omega)]; exact hG.1.2.1, by rw [e2]; omega, by rw [off 3 (by omega)]; exact hG.1.2.2.2⟩, fun j hj => ?_, fun j o hj ho => ?_, fun b hb => ?_⟩, fun q => ?_⟩
  · rw [off 1 (by omega)] at hj
    unfold rW rD rO
    rw [off _ (by omega), off _ (by omega), off _ (by omega)]
    exact hG.2.1 j hj
  · rw [off 1 (by omega)] at hj
    unfold rO at ho
    rw [off _ (by omega)] at ho
    unfold sM sU
    rw [off _ (by omega), off _ (by omega)]
    exact hG.2.2.1 j o hj ho
  · rw [e2] at hb
    unfold bM bF bL
    rw [off _ (by omega), off _ (by omega), off _ (by omega)]
    exact hG.2.2.2 b (by omega)
  · rw [off 3 (by omega)] at q
    obtain ⟨v1, v2⟩ := hO.2 q
    have k1 : ∀ j, j < 6 → rO (repS S) j = rO S j := fun j hj => off _ (by omega)
    exact ⟨v1.keep (by omega) hG (off 1 (by omega)) k1 (fun k _ h => off k (by omega)), v2.keep (by omega) hG (off 1 (by omega)) k1 (fun k _ h => off k (by omega))⟩
theorem barS_ok {S : Row} {B : Int} (hO : Ok S B) {j : Nat} (hj : (j : Int) < S 1) {x : Int} (hx : 0 ≤ x) (h9 : rD S j + x ≤ 999) : Ok (barS S j x) B := by
  have hG := hO.1
  have hj6 := hG.j6 hj
  have off : ∀ k, k ≠ 6 + 3 * j → k ≠ 4 → barS S j x k = S k := fun k a1 a2 => by
    unfold barS
    rw [rset_of a2, rset_of a1]
  have ed : rD (barS S j x) j = rD S j + x := by
    show barS S j x (6 + 3 * j) = _
    unfold barS
    rw [rset_of (by omega), rset_eq rfl]
  refine ⟨⟨⟨by rw [off 0 (by omega) (by omega)]; exact hG.1.1, by rw [off 1 (by omega) (by omega)]; exact hG.1.2.1, by rw [off 2 (by omega) (by omega)]; exact hG.1.2.2.1, by rw [off 3 (by omega) (by omega)]; exact hG.1.2.2.2⟩, fun j' hj' => ?_, fun j' o hj' ho => ?_, fun b hb => ?_⟩, fun q => ?_⟩
  · rw [off 1 (by omega) (by omega)] at hj'
    have g := hG.2.1 j' hj'
    have ew : rW (barS S j x) j' = rW S j' := off _ (by omega) (by omega)
    have eo : rO (barS S j x) j' = rO S j' := off _ (by omega) (by omega)
    rw [ew, eo]
    refine ⟨g.1, ?_, g.2.2⟩
    by_cases c : j' = j
    · rw [c, ed]
      rw [c] at g
      omega
    · have : rD (barS S j x) j' = rD S j' := off _ (by omega) (by omega)
      rw [this]; exact g.2.1
  · rw [off 1 (by omega) (by omega)] at hj'
    unfold rO at ho
    rw [off _ (by omega) (by omega)] at ho
    unfold sM sU
    rw [off _ (by omega) (by omega), off _ (by omega) (by omega)]
    exact hG.2.2.1 j' o hj' ho
  · rw [off 2 (by omega) (by omega)] at hb
    unfold bM bF bL
    rw [off _ (by omega) (by omega), off _ (by omega) (by omega), off _ (by omega) (by omega)]
    exact hG.2.2.2 b hb
  · rw [off 3 (by omega) (by omega)] at q
    obtain ⟨v1, v2⟩ := hO.2 q
    have k1 : ∀ j', j' < 6 → rO (barS S j x) j' = rO S j' := fun j' hj' => off _ (by omega) (by omega)
    exact ⟨v1.keep (by omega) hG (off 1 (by omega) (by omega)) k1 (fun k _ h => off k (by omega) (by omega)), v2.keep (by omega) hG (off 1 (by omega) (by omega)) k1 (fun k _ h => off k (by omega) (by omega))⟩
theorem ovtS_ok {S : Row} {B : Int} (hG : Good S) {j o : Nat} (hl : Live S j o) (h1 : 1 < sU S (5 * j + o)) : Ok (ovtS S j o) B := by
  have hj6 := hG.j6 hl.1
  have ho5 := hG.o5 hl
  have off : ∀ k, k ≠ 24 + 4 * (5 * j + o) → k ≠ 4 → k ≠ 3 → ovtS S j o k = S k := fun k a1 a2 a3 => by
    unfold ovtS
    rw [rset_of a3, rset_of a2, rset_of a1]
  have eu : sU (ovtS S j o) (5 * j + o) = sU S (5 * j + o) - 1 := by
    show ovtS S j o (24 + 4 * (5 * j + o)) = _
    unfold ovtS
    rw [rset_of (by omega), rset_of (by omega), rset_eq rfl]
  have e3 : ovtS S j o 3 = 0 := rset_eq rfl
  refine Ok.un ⟨⟨by rw [off 0 (by omega) (by omega) (by omega)]; exact hG.1.1, by rw [off 1 (by omega) (by omega) (by omega)]; exact hG.1.2.1, by rw [off 2 (by omega) (by omega) (by omega)]; exact hG.1.2.2.1, Or.inl e3⟩, fun j' hj' => ?_, fun j' o' hj' ho => ?_, fun b hb => ?_⟩ e3
  · rw [off 1 (by omega) (by omega) (by omega)] at hj'
    have hj'6 := hG.j6 hj'
    unfold rW rD rO
    rw [off _ (by omega) (by omega) (by omega), off _ (by omega) (by omega) (by omega), off _ (by omega) (by omega) (by omega)]
    exact hG.2.1 j' hj'
  · rw [off 1 (by omega) (by omega) (by omega)] at hj'
    have hj'6 := hG.j6 hj'
    have eo : rO (ovtS S j o) j' = rO S j' := off _ (by omega) (by omega) (by omega)
    rw [eo] at ho
    have ho'5 := hG.o5 ⟨hj', ho⟩
    have g := hG.2.2.1 j' o' hj' ho
    have em : sM (ovtS S j o) (5 * j' + o') = sM S (5 * j' + o') := off _ (by omega) (by omega) (by omega)
    rw [em]
    refine ⟨g.1, ?_⟩
    by_cases c : 5 * j' + o' = 5 * j + o
    · rw [c] at g ⊢
      rw [eu]; omega
    · have : sU (ovtS S j o) (5 * j' + o') = sU S (5 * j' + o') := off _ (by omega) (by omega) (by omega)
      rw [this]; exact g.2
  · rw [off 2 (by omega) (by omega) (by omega)] at hb
    have hb6 := hG.b6 hb
    unfold bM bF bL
    rw [off _ (by omega) (by omega) (by omega), off _ (by omega) (by omega) (by omega), off _ (by omega) (by omega) (by omega)]
    exact hG.2.2.2 b hb
