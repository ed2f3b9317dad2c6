/-! ===== 60: digest ===== -/
abbrev zRL (x : Int64) (σ : zSt) : Option zOut := some (.inl (some (zL x), σ))
theorem zbI_inv {x : Option zOut} {v : Int} {τ' : zSt} (h : (zbI x fun r σ => some (.inl (some (zI r), σ))) = zRI v τ') : x = zRI v τ' := by
  rcases x with _ | (⟨_ | (i | (k | l)), σ⟩ | e)
  · have h' : (none : Option zOut) = zRI v τ' := h
    cases h'
  · have h' : (none : Option zOut) = zRI v τ' := h
    cases h'
  · exact h
  · have h' : (none : Option zOut) = zRI v τ' := h
    cases h'
  · have h' : (none : Option zOut) = zRI v τ' := h
    cases h'
  · have h' : (none : Option zOut) = zRI v τ' := h
    cases h'
theorem dg_v {σ τ : zSt} {S : Row} {B : Int} (h : ShC (shF σ 0) (shA σ 0) S) (hO : Ok S B) (hB : B ≤ 800000) (hS : τ 65 = S) : ∀ (n k : Nat) (l : Int64), k + n = 10 → ∃ l', zE 26 16 [some (zR 0), some (zL l), none, some (zI (k : Int)), none] [] σ = zE 26 40 [some (zR 0), some (zL l'), none, some (zI 0), none] [] σ ∧ zE 116 17 [some (zR 9), some (zL l), none, some (zI (k : Int)), none, none] [] τ = zE 116 44 [some (zR 9), some (zL l'), none, some (zI 0), none, none] [] τ := by
  intro n
  induction n with
  | zero =>
    intro k l hk
    rw [X26_16, if_neg (by omega), X116_17, if_neg (by omega)]
    exact ⟨l, rfl, rfl⟩
  | succ n ih =>
    intro k l hk
    obtain ⟨v, e1, e2⟩ := c_value h hO hB (k : Int) (by omega)
    rw [X26_16, if_pos (by omega), e1, zbI_some, X28_0, zbL_some, X116_17, if_pos (by omega), e2 τ hS, zbI_some, zw_nat1 (by omega)]
    exact ih (k + 1) _ (by omega)
theorem dg_jb {σ τ : zSt} {S : Row} (h : ShC (shF σ 0) (shA σ 0) S) (hG : Good S) (hS : τ 65 = S) {j : Nat} (hj : (j : Int) < S 1) (l0 : Int64) (o5 : Option zVal) : ∀ (n k : Nat) (l : Int64), k + n = 6 → ∃ l', zE 27 6 [some (zR 0), some (zL l0), none, some (zI (j : Int)), some (zL l), none, some (zI (k : Int)), none] [] σ = zE 27 35 [some (zR 0), some (zL l0), none, some (zI (j : Int)), some (zL l'), none, some (zI 0), none] [] σ ∧ zE 116 57 [some (zR 9), some (zL l), none, some (zI (j : Int)), some (zI (k : Int)), o5] [] τ = zE 116 87 [some (zR 9), some (zL l'), none, some (zI (j : Int)), some (zI 0), o5] [] τ := by
  intro n
  induction n with
  | zero =>
    intro k l hk
    rw [X27_6, if_neg (by omega), X116_57, if_neg (by omega)]
    exact ⟨l, rfl, rfl⟩
  | succ n ih =>
    intro k l hk
    have e1 := c_job h hG hj (k := (k : Int)) (by omega)
    have e2 := s81 (σ := τ) (by rw [hS]; exact hG) (j := j) (by rw [hS]; exact hj) (k := (k : Int)) (by omega)
    rw [hS] at e2
    rw [X27_6, if_pos (by omega), e1, zbI_some, X28_0, zbL_some, X116_57, if_pos (by omega), e2, zbI_some, zw_nat1 (by omega)]
    exact ih (k + 1) _ (by omega)
theorem dg_op {σ τ : zSt} {S : Row} {B : Int} (h : ShC (shF σ 0) (shA σ 0) S) (hO : Ok S B) (hB : B ≤ 800000) (hS : τ 65 = S) {j o : Nat} (hl : Live S j o) (l0 : Int64) : ∀ (n k : Nat) (l : Int64), k + n = 5 → ∃ l', zE 27 52 [some (zR 0), some (zL l0), none, some (zI (j : Int)), some (zL l), none, some (zI (o : Int)), some (zI (k : Int))] [] σ = zE 27 35 [some (zR 0), some (zL l0), none, some (zI (j : Int)), some (zL l'), none, some (zI ((o + 1 : Nat) : Int)), some (zI 5)] [] σ ∧ zE 116 101 [some (zR 9), some (zL l), none, some (zI (j : Int)), some (zI (o : Int)), some (zI (k : Int))] [] τ = zE 116 87 [some (zR 9), some (zL l'), none, some (zI (j : Int)), some (zI ((o + 1 : Nat) : Int)), some (zI 5)] [] τ := by
  have ho5 := hO.1.o5 hl
  intro n
  induction n with
  | zero =>
    intro k l hk
    obtain rfl : k = 5 := by omega
    rw [X27_52, if_neg (by omega), X116_101, if_neg (by omega), zw_nat1 (by omega)]
    exact ⟨l, rfl, rfl⟩
  | succ n ih =>
    intro k l hk
    have e1 := c_operation h hO hB hl (k := (k : Int)) (by omega)
    have e2 := s84 (σ := τ) (B := B) (by rw [hS]; exact hO) hB (j := j) (o := o) (by rw [hS]; exact hl) (k := (k : Int)) (by omega)
    rw [hS] at e2
    rw [X27_52, if_pos (by omega), e1, zbI_some, X28_0, zbL_some, X116_101, if_pos (by omega), e2, zbI_some, zw_nat1 (by omega)]
    exact ih (k + 1) _ (by omega)
theorem dg_os {σ τ : zSt} {S : Row} {B : Int} (h : ShC (shF σ 0) (shA σ 0) S) (hO : Ok S B) (hB : B ≤ 800000) (hS : τ 65 = S) {j : Nat} (hj : (j : Int) < S 1) (l0 : Int64) : ∀ (n o : Nat) (l : Int64) (p q : Option zVal), o + n = nO S j → ∃ l' q' r', zE 27 35 [some (zR 0), some (zL l0), none, some (zI (j : Int)), some (zL l), none, some (zI (o : Int)), p] [] σ = zRL l' σ ∧ zE 116 87 [some (zR 9), some (zL l), none, some (zI (j : Int)), some (zI (o : Int)), q] [] τ = zE 116 44 [some (zR 9), some (zL l'), none, some (zI ((j + 1 : Nat) : Int)), q', r'] [] τ := by
  have hG := hO.1
  have hj6 := hG.j6 hj
  have k1 : σ 12 j = rO S j := (h.2.1 j hj6).2.2
  have g5 := (hG.2.1 j hj).2.2
  have hn : (nO S j : Int) = rO S j := by unfold nO; omega
  intro n
  induction n with
  | zero =>
    intro o l p q ho
    rw [X27_35, zgd_pos (by omega), toNat_n, k1, if_neg (by omega), X116_87, s42_2 hj6, zbI_some, hS, if_neg (by omega), zw_nat1 (by omega)]
    exact ⟨l, _, _, rfl, rfl⟩
  | succ n ih =>
    intro o l p q ho
    have hl : Live S j o := ⟨hj, by omega⟩
    obtain ⟨l1, e1, e2⟩ := dg_op h hO hB hS hl l0 5 0 l rfl
    have e1' : zE 27 52 [some (zR 0), some (zL l0), none, some (zI (j : Int)), some (zL l), none, some (zI (o : Int)), some (zI 0)] [] σ = _ := e1
    have e2' : zE 116 101 [some (zR 9), some (zL l), none, some (zI (j : Int)), some (zI (o : Int)), some (zI 0)] [] τ = _ := e2
    rw [X27_35, zgd_pos (by omega), toNat_n, k1, if_pos (by omega), X116_87, s42_2 hj6, zbI_some, hS, if_pos (by omega), e1', e2']
    exact ih (o + 1) l1 _ _ (by omega)
theorem dg_js {σ τ : zSt} {S : Row} {B : Int} (h : ShC (shF σ 0) (shA σ 0) S) (hO : Ok S B) (hB : B ≤ 800000) (hS : τ 65 = S) : ∀ (n j : Nat) (l : Int64) (p q : Option zVal), j + n = nJ S → ∃ l' p' q', zE 26 40 [some (zR 0), some (zL l), none, some (zI (j : Int)), none] [] σ = zE 26 66 [some (zR 0), some (zL l'), none, some (zI 0), none] [] σ ∧ zE 116 44 [some (zR 9), some (zL l), none, some (zI (j : Int)), p, q] [] τ = zE 116 144 [some (zR 9), some (zL l'), none, some (zI 0), p', q'] [] τ := by
  have hG := hO.1
  have g1 := hG.1.2.1
  have k1 : σ 2 1 = S 1 := h.1.2.1
  have hn : (nJ S : Int) = S 1 := by unfold nJ; omega
  intro n
  induction n with
  | zero =>
    intro j l p q hj
    rw [X26_40, k1, if_neg (by omega), X116_44, hS, if_neg (by omega)]
    exact ⟨l, _, _, rfl, rfl⟩
  | succ n ih =>
    intro j l p q hj
    have hjl : (j : Int) < S 1 := by omega
    have hj6 := hG.j6 hjl
    obtain ⟨l1, e1, e2⟩ := dg_jb h hG hS hjl l q 6 0 l rfl
    have e1' : zE 27 6 [some (zR 0), some (zL l), none, some (zI (j : Int)), some (zL l), none, some (zI 0), none] [] σ = _ := e1
    have e2' : zE 116 57 [some (zR 9), some (zL l), none, some (zI (j : Int)), some (zI 0), q] [] τ = _ := e2
    obtain ⟨l2, q', r', e3, e4⟩ := dg_os h hO hB hS hjl l (nO S j) 0 l1 none q (by omega)
    have e3' : zE 27 35 [some (zR 0), some (zL l), none, some (zI (j : Int)), some (zL l1), none, some (zI 0), none] [] σ = _ := e3
    have e4' : zE 116 87 [some (zR 9), some (zL l1), none, some (zI (j : Int)), some (zI 0), q] [] τ = _ := e4
    rw [X26_40, k1, if_pos hjl, X27_0, e1', e3', zbL_some, X116_44, hS, if_pos hjl, e2', e4', zw_nat1 (by omega)]
    exact ih (j + 1) l2 _ _ (by omega)
theorem dg_bk {σ τ : zSt} {S : Row} (h : ShC (shF σ 0) (shA σ 0) S) (hG : Good S) (hS : τ 65 = S) {b : Nat} (hb : (b : Int) < S 2) (q : Option zVal) (l : Int64) : ∃ l', zE 26 80 [some (zR 0), some (zL l), none, some (zI (b : Int)), some (zI 0)] [] σ = zE 26 66 [some (zR 0), some (zL l'), none, some (zI ((b + 1 : Nat) : Int)), some (zI 3)] [] σ ∧ zE 116 157 [some (zR 9), some (zL l), none, some (zI (b : Int)), some (zI 0), q] [] τ = zE 116 144 [some (zR 9), some (zL l'), none, some (zI ((b + 1 : Nat) : Int)), some (zI 3), q] [] τ := by
  have hb6 := hG.b6 hb
  have k2 : σ 2 7 = S 2 := h.1.2.2.1
  obtain ⟨y1, y2, y3⟩ := h.2.2.2.1 b hb6
  have y1' : σ 15 b = bM S b := y1
  have y2' : σ 16 b = bF S b := y2
  have y3' : σ 17 b = bL S b := y3
  have z1 : zw ((0 : Int) + 1) = 1 := zw_id (by decide) (by decide)
  have z2 : zw ((1 : Int) + 1) = 2 := zw_id (by decide) (by decide)
  have z3 : zw ((2 : Int) + 1) = 3 := zw_id (by decide) (by decide)
  have c0 : zE 13 0 [some (zR 0), some (zI (b : Int)), some (zI 0)] [] σ = zRI (bM S b) σ := by
    rw [X13_0, s149, zbI_some, k2, if_pos (c := 0 ≤ (b : Int) ∧ (b : Int) < S 2) (by omega), if_neg i10, s33, zbI_some, if_pos (c := 0 ≤ (0 : Int) ∧ (0 : Int) ≤ 2) (by decide), if_neg i10, if_pos rfl, zgd_pos (by omega), toNat_n, y1']
  have c1 : zE 13 0 [some (zR 0), some (zI (b : Int)), some (zI 1)] [] σ = zRI (bF S b) σ := by
    rw [X13_0, s149, zbI_some, k2, if_pos (c := 0 ≤ (b : Int) ∧ (b : Int) < S 2) (by omega), if_neg i10, s33, zbI_some, if_pos (c := 0 ≤ (1 : Int) ∧ (1 : Int) ≤ 2) (by decide), if_neg i10, if_neg i10, if_pos rfl, zgd_pos (by omega), toNat_n, y2']
  have c2 : zE 13 0 [some (zR 0), some (zI (b : Int)), some (zI 2)] [] σ = zRI (bL S b) σ := by
    rw [X13_0, s149, zbI_some, k2, if_pos (c := 0 ≤ (b : Int) ∧ (b : Int) < S 2) (by omega), if_neg i10, s33, zbI_some, if_pos (c := 0 ≤ (2 : Int) ∧ (2 : Int) ≤ 2) (by decide), if_neg i10, if_neg (by decide), if_neg (by decide), zgd_pos (by omega), toNat_n, y3']
  refine ⟨31 * (31 * (31 * l + zl (bM S b)) + zl (bF S b)) + zl (bL S b), ?_, ?_⟩
  · rw [X26_80, if_pos (by decide), c0, zbI_some, X28_0, zbL_some, z1, X26_80, if_pos (by decide), c1, zbI_some, X28_0, zbL_some, z2, X26_80, if_pos (by decide), c2, zbI_some, X28_0, zbL_some, z3, X26_80, if_neg (by decide), zw_nat1 (by omega)]
  · rw [X116_157, if_pos (by decide), s46_0 hb6, zbI_some, hS, z1, X116_157, if_pos (by decide), s46_1 hb6, zbI_some, hS, z2, X116_157, if_pos (by decide), s46_2 hb6, zbI_some, hS, z3, X116_157, if_neg (by decide), zw_nat1 (by omega)]
theorem dg_bs {σ τ : zSt} {S : Row} (h : ShC (shF σ 0) (shA σ 0) S) (hG : Good S) (hS : τ 65 = S) : ∀ (n b : Nat) (l : Int64) (p q r : Option zVal), ((b + n : Nat) : Int) = S 2 → ∃ l' p' q', zE 26 66 [some (zR 0), some (zL l), none, some (zI (b : Int)), p] [] σ = zE 26 66 [some (zR 0), some (zL l'), none, some (zI (S 2)), p'] [] σ ∧ zE 116 144 [some (zR 9), some (zL l), none, some (zI (b : Int)), q, r] [] τ = zE 116 144 [some (zR 9), some (zL l'), none, some (zI (S 2)), q', r] [] τ := by
  have k2 : σ 2 7 = S 2 := h.1.2.2.1
  intro n
  induction n with
  | zero =>
    intro b l p q r hb
    rw [show (b : Int) = S 2 from hb]
    exact ⟨l, _, _, rfl, rfl⟩
  | succ n ih =>
    intro b l p q r hb
    obtain ⟨l1, e1, e2⟩ := dg_bk h hG hS (b := b) (by omega) r l
    obtain ⟨l2, p', q', e3, e4⟩ := ih (b + 1) l1 (some (zI 3)) (some (zI 3)) r (by omega)
    refine ⟨l2, p', q', ?_, ?_⟩
    · rw [← e3, ← e1, X26_66, if_pos (by rw [k2]; omega)]
    · rw [← e4, ← e2, X116_144, if_pos (by rw [hS]; omega)]
/-- what the two sides come to, where the answer is a long -/
def BothL (x y : Option zOut) (σ τ : zSt) (B : Int) : Prop := ∃ (v : Int64) (σ' τ' : zSt) (S' : Row) (c' : Nat) (H' : Nat → Row) (t' : Nat) (T' : Row), x = zRL v σ' ∧ y = zRL v τ' ∧ τ' 9 0 = 0 ∧ RC σ' S' c' H' t' T' ∧ RM τ' S' c' H' t' T' ∧ RA S' c' H' t' T' B ∧ FC σ σ' ∧ FM τ τ'
theorem f_digest {σ τ : zSt} {S : Row} {c : Nat} {H : Nat → Row} {t : Nat} {T : Row} {B : Int} (hB : 550 ≤ B ∧ B ≤ 700000) (h : RC σ S c H t T) (g : RM τ S c H t T) (a : RA S c H t T B) : BothL (zE 26 0 [some (zR 0), none, none, none, none] [] σ) (zE 116 0 [some (zR 9), none, none, none, none, none] [] τ) σ τ B := by
  have hG := a.1.1
  have g1 := hG.1.2.1
  have g2 := hG.1.2.2.1
  have hB8 : B ≤ 800000 := by omega
  have r0 : RM (zup τ 9 0 0) S c H t T := g.nine (by decide)
  have hS : (zup τ 9 0 0) 65 = S := r0.1
  have z0 : (zup τ 9 0 0) 9 0 = 0 := zup_at _ _ _ _
  have ez : zup (zup τ 9 0 0) 9 0 0 = zup τ 9 0 0 := by
    funext k i
    by_cases q : k = 9 ∧ i = 0 <;> simp [zup, q]
  have lit : (31 : Int64) * 3719 = 115289 := by decide
  have e0 := X26_0 σ
  rw [X28_0, zbL_some, h.2.2.2.1, lit] at e0
  have e1 := X116_0 τ
  rw [r0.2.2.2.1] at e1
  obtain ⟨l1, x1, y1⟩ := dg_v h.1 a.1 hB8 hS 10 0 (115289 + zl (t : Int)) rfl
  obtain ⟨l2, p2, q2, x2, y2⟩ := dg_js h.1 a.1 hB8 hS (nJ S) 0 l1 none none (by omega)
  obtain ⟨l3, p3, q3, x3, y3⟩ := dg_bs h.1 hG hS (S 2).toNat 0 l2 none p2 q2 (by omega)
  have e2 : zE 26 0 [some (zR 0), none, none, none, none] [] σ = zE 26 66 [some (zR 0), some (zL l3), none, some (zI (S 2)), p3] [] σ := e0.trans (x1.trans (x2.trans x3))
  have e3 : zE 116 0 [some (zR 9), none, none, none, none, none] [] τ = zE 116 144 [some (zR 9), some (zL l3), none, some (zI (S 2)), q3, q2] [] (zup τ 9 0 0) := e1.trans (y1.trans (y2.trans y3))
  rw [e2, e3]
  rcases f_latenessShifted hB h r0 a with ⟨v, σ', τ', S', c', H', t', T', w1, w2, w3, w4, w5, w6, w7, w8⟩ | ⟨i, k, τ', hk, _⟩
  · rw [X100_0, ez] at w2
    have w2' := zbI_inv w2
    refine ⟨31 * (31 * (31 * l3 + zl (if S 3 = 1 then mtS S else -1)) + zl v) + zl (c' : Int), σ', τ', S', c', H', t', T', ?_, ?_, w3, w4, w5, w6, w7, FM.nine.trans w8⟩
    · rw [X26_66, if_neg (by rw [h.fld.2.2.1]; omega), c_meeting h.1 a.1 hB8, zbI_some, X28_0, zbL_some, w1, zbI_some, X28_0, zbL_some, X28_0, zbL_some, w4.2.2.1]
    · rw [X116_144, if_neg (by rw [hS]; omega), s92 (B := B) (by rw [hS]; exact a.1) hB8, zbI_some, hS, w2', zbI_some, w5.2.1]
  · cases hk
