/-! ===== 25: the class's hits, least starts ===== -/
/-- the class's shop holds what the row S says, plans aside -/
def CS (σ : zSt) (S : Row) : Prop := (σ 2 0 = S 0 ∧ σ 2 1 = S 1 ∧ σ 2 7 = S 2) ∧ (∀ j : Nat, j < 6 → σ 10 j = rW S j ∧ σ 11 j = rD S j ∧ σ 12 j = rO S j) ∧ (∀ i : Nat, i < 30 → σ 13 i = sM S i ∧ σ 14 i = sU S i) ∧ (∀ b : Nat, b < 6 → σ 15 b = bM S b ∧ σ 16 b = bF S b ∧ σ 17 b = bL S b)
theorem CS.of {σ : zSt} {S T : Row} (h : CS σ S) (st : Sta S T) : CS σ T := by
  refine ⟨⟨by rw [st.k0]; exact h.1.1, by rw [st.k1]; exact h.1.2.1, by rw [st.k2]; exact h.1.2.2⟩, fun j hj => ?_, fun i hi => ?_, fun b hb => ?_⟩
  · rw [st.w hj, st.d hj, st.o hj]; exact h.2.1 j hj
  · rw [st.m, st.u]; exact h.2.2.1 i hi
  · rw [st.bm, st.bf, st.bl]; exact h.2.2.2 b hb
/-- the class's shop is as it was -/
def SameShop (σ σ' : zSt) : Prop := σ' 2 0 = σ 2 0 ∧ σ' 2 1 = σ 2 1 ∧ σ' 2 7 = σ 2 7 ∧ ∀ k : Nat, 10 ≤ k → k < 18 → σ' k = σ k
theorem CS.same {σ σ' : zSt} {S : Row} (h : CS σ S) (e : SameShop σ σ') : CS σ' S := by
  obtain ⟨e0, e1, e7, ek⟩ := e
  refine ⟨⟨by rw [e0]; exact h.1.1, by rw [e1]; exact h.1.2.1, by rw [e7]; exact h.1.2.2⟩, fun j hj => ?_, fun i hi => ?_, fun b hb => ?_⟩
  · rw [ek 10 (by omega) (by omega), ek 11 (by omega) (by omega), ek 12 (by omega) (by omega)]; exact h.2.1 j hj
  · rw [ek 13 (by omega) (by omega), ek 14 (by omega) (by omega)]; exact h.2.2.1 i hi
  · rw [ek 15 (by omega) (by omega), ek 16 (by omega) (by omega), ek 17 (by omega) (by omega)]; exact h.2.2.2 b hb
theorem toNat_n (n : Nat) : Int.toNat (n : Int) = n := Int.toNat_natCast n
theorem s35 {j o : Nat} (hj : j < 1000) (ho : o < 1000) (σ : zSt) : zE 35 0 [some (zI j), some (zI o)] [] σ = zRI ((5 * j + o : Nat) : Int) σ := by
  rw [X35_0]
  simp (disch := omega) only [zw_id]
  rfl
theorem s165 {σ : zSt} {S : Row} (hC : CS σ S) (hG : Good S) {i : Nat} (hi : i < 30) (hu : 1 ≤ sU S i ∧ sU S i ≤ 20) {b : Nat} (hb : (b : Int) < S 2) {t : Int} (ht : 0 ≤ t ∧ t ≤ 1000000) : (Hit S i t b → zE 165 0 [some (zR 2), some (zI i), some (zI t), some (zI b)] [] σ = zRI 1 σ) ∧ (¬ Hit S i t b → zE 165 0 [some (zR 2), some (zI i), some (zI t), some (zI b)] [] σ = zRI 0 σ) := by
  have hb6 := hG.b6 hb
  obtain ⟨g1, g2, g3⟩ := hG.2.2.2 b hb
  obtain ⟨c1, c2⟩ := hC.2.2.1 i hi
  obtain ⟨d1, d2, d3⟩ := hC.2.2.2 b hb6
  have key : zE 165 0 [some (zR 2), some (zI i), some (zI t), some (zI b)] [] σ = (if bM S b = sM S i then (if t < bF S b + bL S b then (if t + sU S i ≤ bF S b then zRI 0 σ else zRI 1 σ) else zRI 0 σ) else zRI 0 σ) := by
    rw [X165_0, toNat_n, toNat_n, zgd_pos (by omega), zgd_pos (by omega), d1, d2, d3, c1, c2]
    by_cases e1 : bM S b = sM S i
    · rw [if_pos e1, if_pos e1, zgd_pos (by omega), zgd_pos (by omega), zw_id (by omega) (by omega)]
      by_cases e2 : t < bF S b + bL S b
      · rw [if_pos e2, if_pos e2, zgd_pos (by omega), zgd_pos (by omega), zw_id (by omega) (by omega)]
        by_cases e3 : t + sU S i ≤ bF S b
        · rw [if_pos e3, if_pos e3, zgd_pos (Or.inl rfl)]
        · rw [if_neg e3, if_neg e3, zgd_pos (Or.inr rfl)]
      · rw [if_neg e2, if_neg e2]
    · rw [if_neg e1, if_neg e1]
  rw [key]
  refine ⟨fun h => ?_, fun h => ?_⟩
  · rw [if_pos h.1, if_pos h.2.1, if_neg (by have := h.2.2; omega)]
  · by_cases e1 : bM S b = sM S i
    · rw [if_pos e1]
      by_cases e2 : t < bF S b + bL S b
      · rw [if_pos e2]
        by_cases e3 : t + sU S i ≤ bF S b
        · rw [if_pos e3]
        · exact absurd ⟨e1, e2, by omega⟩ h
      · rw [if_neg e2]
    · rw [if_neg e1]
theorem s164 {σ : zSt} {S : Row} (hC : CS σ S) (hG : Good S) {i : Nat} (hi : i < 30) (hu : 1 ≤ sU S i ∧ sU S i ≤ 20) {t : Int} (ht : 0 ≤ t ∧ t ≤ 1000000) : (Hits S i t → zE 164 0 [some (zR 2), some (zI i), some (zI t), none] [] σ = zRI 1 σ) ∧ (¬ Hits S i t → zE 164 0 [some (zR 2), some (zI i), some (zI t), none] [] σ = zRI 0 σ) := by
  have hnb := hG.1.2.2.1
  have key : ∀ (d b : Nat), (b : Int) + d = S 2 → (∀ b' : Nat, b' < b → ¬ Hit S i t b') → (Hits S i t → zE 164 2 [some (zR 2), some (zI i), some (zI t), some (zI b)] [] σ = zRI 1 σ) ∧ (¬ Hits S i t → zE 164 2 [some (zR 2), some (zI i), some (zI t), some (zI b)] [] σ = zRI 0 σ) := by
    intro d
    induction d with
    | zero =>
      intro b hb hn
      have : ¬ Hits S i t := fun ⟨b', h1, h2⟩ => hn b' (by omega) h2
      refine ⟨fun q => absurd q this, fun _ => ?_⟩
      rw [X164_2, if_neg (by rw [hC.1.2.2]; omega)]
    | succ d ih =>
      intro b hb hn
      have hbl : (b : Int) < S 2 := by omega
      have hb6 := hG.b6 hbl
      obtain ⟨q1, q2⟩ := s165 hC hG hi hu hbl ht
      rw [X164_2, if_pos (by rw [hC.1.2.2]; exact hbl)]
      by_cases c : Hit S i t b
      · rw [q1 c, zbI_some, if_neg (by decide)]
        exact ⟨fun _ => rfl, fun q => absurd ⟨b, hbl, c⟩ q⟩
      · rw [q2 c, zbI_some, if_pos rfl, zw_nat1 (by omega)]
        exact ih (b + 1) (by omega) (fun b' hb' => by
          by_cases e : b' = b
          · rw [e]; exact c
          · exact hn b' (by omega))
  obtain ⟨n, hn⟩ : ∃ n : Nat, (n : Int) = S 2 := ⟨(S 2).toNat, by omega⟩
  rw [X164_0]
  exact key n 0 (by omega) (fun b' h => by omega)
/-- how many of the first n breakdowns lie behind s -/
def pas (S : Row) (s : Int) (n : Nat) : Nat := match n with
  | 0 => 0
  | n + 1 => pas S s n + if bF S n + bL S n ≤ s then 1 else 0
theorem pas_le {S : Row} {s : Int} (n : Nat) : pas S s n ≤ n := by
  induction n with
  | zero => exact Nat.le_refl _
  | succ n ih => unfold pas; split <;> omega
theorem pas_all {S : Row} {s : Int} (n : Nat) (h : n ≤ pas S s n) : ∀ b, b < n → bF S b + bL S b ≤ s := by
  induction n with
  | zero => intro b hb; omega
  | succ n ih =>
    intro b hb
    unfold pas at h
    have h1 := pas_le (S := S) (s := s) n
    by_cases c : bF S n + bL S n ≤ s
    · rw [if_pos c] at h
      by_cases e : b = n
      · rw [e]; exact c
      · exact ih (by omega) b (by omega)
    · rw [if_neg c] at h; omega
theorem pas_mono {S : Row} {s s' : Int} (hs : s ≤ s') (n : Nat) : pas S s n ≤ pas S s' n := by
  induction n with
  | zero => exact Nat.le_refl _
  | succ n ih =>
    unfold pas
    by_cases c : bF S n + bL S n ≤ s
    · rw [if_pos c, if_pos (by omega)]; omega
    · rw [if_neg c]; omega
theorem pas_more {S : Row} {s s' : Int} (hs : s ≤ s') (n b : Nat) (hb : b < n) (h1 : ¬ bF S b + bL S b ≤ s) (h2 : bF S b + bL S b ≤ s') : pas S s n + 1 ≤ pas S s' n := by
  induction n with
  | zero => omega
  | succ n ih =>
    unfold pas
    by_cases e : b = n
    · subst e
      rw [if_neg h1, if_pos h2]
      have := pas_mono hs (S := S) b
      omega
    · have := ih (by omega)
      by_cases c : bF S n + bL S n ≤ s
      · rw [if_pos c, if_pos (by omega)]; omega
      · rw [if_neg c]; omega
theorem s163 {σ : zSt} {S : Row} (hC : CS σ S) (hG : Good S) {i : Nat} (hi : i < 30) (hu : 1 ≤ sU S i ∧ sU S i ≤ 20) {f : Int} (hf : 0 ≤ f ∧ f ≤ 900000) : ∃ t, zE 163 0 [some (zR 2), some (zI i), some (zI f), none, none, none, none] [] σ = zRI t σ ∧ Lst S i f t := by
  have hnb := hG.1.2.2.1
  obtain ⟨n, hn⟩ : ∃ n : Nat, (n : Int) = S 2 := ⟨(S 2).toNat, by omega⟩
  -- one pass over the breakdowns
  have pass : ∀ (d b : Nat) (s s0 : Int) (r : Nat), (b : Int) + d = S 2 → f ≤ s0 → s0 ≤ s → s ≤ max f 550 → (∀ u : Int, f ≤ u → u < s → Hits S i u) → (s = s0 → ∀ b' : Nat, b' < b → ¬ Hit S i s0 b') → (s ≠ s0 → pas S s0 n + 1 ≤ pas S s n) →
      ∃ s' : Int, zE 163 20 [some (zR 2), some (zI i), some (zI f), some (zI s), some (zI (r : Int)), some (zI s0), some (zI b)] [] σ = zE 163 20 [some (zR 2), some (zI i), some (zI f), some (zI s'), some (zI (r : Int)), some (zI s0), some (zI (n : Int))] [] σ ∧ s0 ≤ s' ∧ s' ≤ max f 550 ∧ (∀ u : Int, f ≤ u → u < s' → Hits S i u) ∧ (s' = s0 → ¬ Hits S i s0) ∧ (s' ≠ s0 → pas S s0 n + 1 ≤ pas S s' n) := by
    intro d
    induction d with
    | zero =>
      intro b s s0 r hb h1 h2 h3 h4 h5 h6
      have hbn : b = n := by omega
      subst hbn
      exact ⟨s, rfl, h2, h3, h4, fun q ⟨b', g1, g2⟩ => h5 q b' (by omega) g2, h6⟩
    | succ d ih =>
      intro b s s0 r hb h1 h2 h3 h4 h5 h6
      have hbl : (b : Int) < S 2 := by omega
      have hb6 := hG.b6 hbl
      obtain ⟨g1, g2, g3⟩ := hG.2.2.2 b hbl
      obtain ⟨d1, d2, d3⟩ := hC.2.2.2 b hb6
      obtain ⟨q1, q2⟩ := s165 hC hG hi hu hbl (t := s) (by omega)
      rw [X163_20, if_pos (by rw [hC.1.2.2]; exact hbl)]
      by_cases c : Hit S i s b
      · rw [q1 c, zbI_some, if_neg (by decide), toNat_n, zgd_pos (by omega), zgd_pos (by omega), d2, d3, zw_nat1 (by omega), zw_id (by omega) (by omega)]
        have c2 := c.2.1
        refine ih (b + 1) _ s0 r (by omega) h1 (by omega) (by omega) (fun u hu1 hu2 => ?_) (fun q => by omega) (fun _ => ?_)
        · by_cases e : u < s
          · exact h4 u hu1 e
          · exact c.push hbl u (by omega) hu2
        · exact pas_more (by omega) n b (by omega) (by omega) (by omega)
      · rw [q2 c, zbI_some, if_pos rfl, zw_nat1 (by omega)]
        refine ih (b + 1) s s0 r (by omega) h1 h2 h3 h4 (fun q b' hb' => ?_) h6
        by_cases e : b' = b
        · rw [e, ← q]; exact c
        · exact h5 q b' (by omega)
  have rounds : ∀ (d r : Nat) (s : Int) (o5 o6 : Option zVal), (r : Int) + d = S 2 → f ≤ s → s ≤ max f 550 → (∀ u : Int, f ≤ u → u < s → Hits S i u) → r ≤ pas S s n →
      ∃ t, zE 163 5 [some (zR 2), some (zI i), some (zI f), some (zI s), some (zI (r : Int)), o5, o6] [] σ = zRI t σ ∧ Lst S i f t := by
    intro d
    induction d with
    | zero =>
      intro r s o5 o6 hr h1 h2 h3 h4
      have hrn : r = n := by omega
      subst hrn
      have hall := pas_all r h4
      refine ⟨s, ?_, h1, fun ⟨b, g1, g2⟩ => ?_, h3⟩
      · rw [X163_5, if_neg (by rw [hC.1.2.2]; omega)]
      · have := hall b (by omega)
        have := g2.2.1
        omega
    | succ d ih =>
      intro r s o5 o6 hr h1 h2 h3 h4
      rw [X163_5, if_pos (by rw [hC.1.2.2]; omega)]
      obtain ⟨s', e1, e2, e3, e4, e5, e6⟩ := pass n 0 s s r (by omega) h1 (Int.le_refl _) h2 h3 (fun _ b' h => by omega) (fun q => absurd rfl q)
      have e1' : zE 163 20 [some (zR 2), some (zI i), some (zI f), some (zI s), some (zI (r : Int)), some (zI s), some (zI 0)] [] σ = _ := e1
      rw [e1', X163_20, if_neg (by rw [hC.1.2.2]; omega)]
      by_cases c : s' = s
      · rw [if_pos c]
        subst c
        exact ⟨s', rfl, h1, e5 rfl, h3⟩
      · rw [if_neg c, zw_nat1 (by omega)]
        exact ih (r + 1) s' _ _ (by omega) (by omega) e3 e4 (by have := e6 c; omega)
  rw [X163_0]
  exact rounds n 0 f none none (by omega) (Int.le_refl _) (by omega) (fun u a b => by omega) (Nat.zero_le _)
