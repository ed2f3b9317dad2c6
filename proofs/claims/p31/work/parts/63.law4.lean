/-! ===== 63: the law's plan made anew; copies ===== -/
section LAWR
variable {σ : zSt} {S : Row}
/-- what is kept so far -/
def KI (S : Row) (moment : Int) (σ τ : zSt) (j o : Nat) : Prop := Fp σ τ ∧ ∀ j' o', Live S j' o' → pT τ j' o' = if (j' < j ∨ (j' = j ∧ o' < o)) ∧ ¬ o' < kp S moment j' then -1 else sP S (5 * j' + o')
theorem t183_in (h : Wst σ S) (h3 : L3 S) (hG : Good S) {B : Int} (hP : PP S B) (hB : 0 ≤ B ∧ B ≤ 800000) {moment : Int} (rule : Int) {j : Nat} (hj : j < 3) : ∀ (d o : Nat) (τ : zSt), o + d = nO S j → KI S moment σ τ j o →
    ∃ τ' p7 p8, zE 183 18 [some (zI moment), some (zI rule), some (zR 9), some (zR 65), some (zR 66), some (zR 68), some (zI (j : Int)), some (zI (if o ≤ kp S moment j then 1 else 0)), some (zI ((4 * j + o : Nat) : Int))] [] τ = zE 183 3 [some (zI moment), some (zI rule), some (zR 9), some (zR 65), some (zR 66), some (zR 68), some (zI ((j + 1 : Nat) : Int)), p7, p8] [] τ' ∧ KI S moment σ τ' (j + 1) 0 := by
  have hjl : (j : Int) < S 1 := by rw [h3.1.2]; omega
  have g4 := h3.2.2 j hj
  have g := (hG.2.1 j hjl).2.2
  have hks := kp_spec S moment j
  intro d
  induction d with
  | zero =>
    intro o τ hd hi
    have hw := hi.1.fo.ls h
    have a3 := (hw.2.1 j hj).2.2
    have u2 : zw (zw (3 * (j : Int)) + 2) = 3 * (j : Int) + 2 := by rw [zw_id (x := 3 * (j : Int)) (by omega) (by omega), zw_id (by omega) (by omega)]
    have m2 : (3 * (j : Int) + 2).toNat = 3 * j + 2 := by omega
    have w5 : zw (zw (4 * (j : Int)) + rO S j) = 4 * (j : Int) + rO S j := by rw [zw_id (x := 4 * (j : Int)) (by omega) (by omega), zw_id (by omega) (by omega)]
    refine ⟨τ, some (zI (if o ≤ kp S moment j then 1 else 0)), some (zI ((4 * j + o : Nat) : Int)), ?_, hi.1, fun j' o' hl' => ?_⟩
    · rw [X183_18, u2, m2, a3, w5, zgd_pos (by omega), if_neg (by unfold nO at hd; omega), zw_nat1 (by omega)]
    · rw [hi.2 j' o' hl']
      have hb := nO_lt.mpr hl'.2
      by_cases c : (j' < j ∨ (j' = j ∧ o' < o)) ∧ ¬ o' < kp S moment j'
      · rw [if_pos c, if_pos ⟨by omega, c.2⟩]
      · rw [if_neg c, if_neg (fun q => c ⟨by
          by_cases e : j' = j
          · subst e; exact Or.inr ⟨rfl, by omega⟩
          · exact Or.inl (by omega), q.2⟩)]
  | succ d ih =>
    intro o τ hd hi
    have hw := hi.1.fo.ls h
    have a3 := (hw.2.1 j hj).2.2
    have hl : Live S j o := ⟨hjl, nO_lt.mp (by omega)⟩
    have hl2 := hl.2
    have hpp := hP j o hl
    have u2 : zw (zw (3 * (j : Int)) + 2) = 3 * (j : Int) + 2 := by rw [zw_id (x := 3 * (j : Int)) (by omega) (by omega), zw_id (by omega) (by omega)]
    have m2 : (3 * (j : Int) + 2).toNat = 3 * j + 2 := by omega
    have w5 : zw (zw (4 * (j : Int)) + rO S j) = 4 * (j : Int) + rO S j := by rw [zw_id (x := 4 * (j : Int)) (by omega) (by omega), zw_id (by omega) (by omega)]
    have w3 : zw (zw (4 * ((4 * j + o : Nat) : Int)) + 3) = 4 * ((4 * j + o : Nat) : Int) + 3 := by rw [zw_id (x := 4 * ((4 * j + o : Nat) : Int)) (by omega) (by omega), zw_id (by omega) (by omega)]
    have n3 : (4 * ((4 * j + o : Nat) : Int) + 3).toNat = 16 * j + 4 * o + 3 := by omega
    have ep : τ 66 (16 * j + 4 * o + 3) = sP S (5 * j + o) := by
      have e := hi.2 j o hl
      rw [if_neg (by omega)] at e
      exact e
    have nx : zw (((4 * j + o : Nat) : Int) + 1) = ((4 * j + (o + 1) : Nat) : Int) := by rw [zw_id (by omega) (by omega)]; omega
    -- what is stored, and then
    have fin : ∀ (s : Int) (l7 : Int), s = (if o + 1 ≤ kp S moment j then 1 else 0) → ∃ τ' p7 p8, zE 183 81 [some (zI moment), some (zI rule), some (zR 9), some (zR 65), some (zR 66), some (zR 68), some (zI (j : Int)), some (zI l7), some (zI ((4 * j + o : Nat) : Int))] [zI s] τ = zE 183 3 [some (zI moment), some (zI rule), some (zR 9), some (zR 65), some (zR 66), some (zR 68), some (zI ((j + 1 : Nat) : Int)), p7, p8] [] τ' ∧ KI S moment σ τ' (j + 1) 0 := by
      intro s l7 hs
      by_cases c : o + 1 ≤ kp S moment j
      · have hs1 : s = 1 := by rw [hs, if_pos c]
        obtain ⟨τ', p7, p8, i1, i2⟩ := ih (o + 1) (zup τ 66 (16 * j + 4 * o + 3) (sP S (5 * j + o))) (by omega) ⟨hi.1.trans (Fp.up (by omega)), fun j' o' hl' => by
          have hab := h3.j3 hl'
          rw [pT_up (h3.j3 hl).2 hab.2]
          by_cases e : j' = j ∧ o' = o
          · rw [if_pos e, e.1, e.2, if_neg (fun q => q.2 (by omega))]
          · rw [if_neg e, hi.2 j' o' hl']
            by_cases c2 : (j' < j ∨ (j' = j ∧ o' < o)) ∧ ¬ o' < kp S moment j'
            · rw [if_pos c2, if_pos ⟨by omega, c2.2⟩]
            · rw [if_neg c2, if_neg (fun q => c2 ⟨by omega, q.2⟩)]⟩
        refine ⟨τ', p7, p8, ?_, i2⟩
        rw [if_pos c] at i1
        rw [X183_81, hs1, if_neg i10, w3, n3, zgd_pos (by omega), zgd_pos (by omega), ep, nx]
        exact i1
      · have hs0 : s = 0 := by rw [hs, if_neg c]
        obtain ⟨τ', p7, p8, i1, i2⟩ := ih (o + 1) (zup τ 66 (16 * j + 4 * o + 3) (-1)) (by omega) ⟨hi.1.trans (Fp.up (by omega)), fun j' o' hl' => by
          have hab := h3.j3 hl'
          rw [pT_up (h3.j3 hl).2 hab.2]
          by_cases e : j' = j ∧ o' = o
          · rw [if_pos e, e.1, e.2, if_pos ⟨by omega, by omega⟩]
          · rw [if_neg e, hi.2 j' o' hl']
            by_cases c2 : (j' < j ∨ (j' = j ∧ o' < o)) ∧ ¬ o' < kp S moment j'
            · rw [if_pos c2, if_pos ⟨by omega, c2.2⟩]
            · rw [if_neg c2, if_neg (fun q => c2 ⟨by omega, q.2⟩)]⟩
        refine ⟨τ', p7, p8, ?_, i2⟩
        rw [if_neg c] at i1
        rw [X183_81, hs0, if_pos rfl, w3, n3, zgd_pos (by omega), nx]
        exact i1
    rw [X183_18, u2, m2, a3, w5, zgd_pos (by omega), if_pos (by omega)]
    by_cases c0 : o ≤ kp S moment j
    · rw [if_pos c0, if_neg i10, w3, n3, zgd_pos (by omega), ep]
      by_cases c1 : sP S (5 * j + o) < moment
      · obtain ⟨k1, k2⟩ := t174 hw h3 hG hl (t := sP S (5 * j + o)) (by omega)
        rw [if_pos c1, zgd_pos (by omega)]
        by_cases c2 : Hits S (5 * j + o) (sP S (5 * j + o))
        · rw [k1 c2, zbI_some, if_neg i10]
          refine fin 0 1 ?_
          rw [if_neg]
          intro hc
          exact (hks.2.1 o (by omega)).2 c2
        · rw [k2 c2, zbI_some, if_pos rfl]
          refine fin 1 1 ?_
          rw [if_pos]
          refine Decidable.byContradiction (fun hc => ?_)
          have e : kp S moment j = o := by omega
          exact hks.2.2 (by omega) (by rw [e]; exact ⟨c1, c2⟩)
      · rw [if_neg c1, X183_80]
        refine fin 0 1 ?_
        rw [if_neg]
        intro hc
        exact c1 (hks.2.1 o (by omega)).1
    · rw [if_neg c0, if_pos rfl, X183_80]
      exact fin 0 0 (by rw [if_neg (by omega)])
theorem t183 (h : Wst σ S) (h3 : L3 S) (hG : Good S) (hp : Wpr σ S) {B : Int} (hP : PP S B) {moment rule : Int} (hm : 0 ≤ moment ∧ moment ≤ B) (hB2 : 550 ≤ B ∧ B ≤ 700000) : ∃ σ', zE 183 0 [some (zI moment), some (zI rule), some (zR 9), some (zR 65), some (zR 66), some (zR 68), none, none, none] [] σ = zRV σ' ∧ Fp σ σ' ∧ Wpr σ' (paS S moment rule) := by
  have key : ∀ (d j : Nat) (τ : zSt) (o7 o8 : Option zVal), j + d = 3 → KI S moment σ τ j 0 → ∃ σ', zE 183 3 [some (zI moment), some (zI rule), some (zR 9), some (zR 65), some (zR 66), some (zR 68), some (zI (j : Int)), o7, o8] [] τ = zRV σ' ∧ Fp σ σ' ∧ Wpr σ' (paS S moment rule) := by
    intro d
    induction d with
    | zero =>
      intro j τ o7 o8 hj hi
      have hw := hi.1.fo.ls h
      have stk := kpS_staP S moment
      have hp2 : Wpr τ (kpS S moment) := by
        intro j' o' hl
        have hl2 := (stk.sta.live hG j' o').mp hl
        have hab := h3.j3 hl2
        have e := hi.2 j' o' hl2
        rw [kpS_live hG hl2]
        by_cases c : o' < kp S moment j'
        · rw [if_neg (fun q => q.2 c)] at e
          rw [if_pos c]; exact e
        · rw [if_pos ⟨Or.inl (by omega), c⟩] at e
          rw [if_neg c]; exact e
      obtain ⟨σ', a1, a2, a3⟩ := t179 (hw.of stk.sta.stt hG h3) (stk.sta.stt.l3 hG h3) (stk.sta.good hG) hp2 (kpS_pb hG hP moment (by omega)) (rule := rule) hm hB2
      refine ⟨σ', ?_, hi.1.trans a2, a3⟩
      rw [X183_3, if_neg (by omega), a1, zbV_some]
    | succ d ih =>
      intro j τ o7 o8 hj hi
      obtain ⟨τ', p7, p8, a1, a2⟩ := t183_in h h3 hG hP (by omega) rule (show j < 3 by omega) (nO S j) 0 τ (by omega) hi
      rw [if_pos (Nat.zero_le _)] at a1
      have w4 : zw (4 * (j : Int)) = ((4 * j + 0 : Nat) : Int) := by rw [zw_id (by omega) (by omega)]; omega
      obtain ⟨σ', b1, b2, b3⟩ := ih (j + 1) τ' p7 p8 (by omega) a2
      refine ⟨σ', ?_, b2, b3⟩
      rw [X183_3, if_pos (by omega), w4, a1, b1]
  obtain ⟨σ', b1, b2, b3⟩ := key 3 0 σ none none rfl ⟨Fp.rf σ, fun j' o' hl => by rw [if_neg (by omega)]; exact hp j' o' hl⟩
  refine ⟨σ', ?_, b2, b3⟩
  rw [X183_0]
  exact b1
theorem t184_o (σ : zSt) : ∃ σ', zE 184 0 [some (zR 66), some (zR 67), none] [] σ = zRV σ' ∧ (∀ k : Nat, k ≠ 67 → σ' k = σ k) ∧ ∀ x : Nat, x < 48 → σ' 67 x = σ 66 x := by
  have key : ∀ (d x : Nat) (τ : zSt), x + d = 48 → ∃ σ', zE 184 2 [some (zR 66), some (zR 67), some (zI (x : Int))] [] τ = zRV σ' ∧ (∀ k : Nat, k ≠ 67 → σ' k = τ k) ∧ ((∀ y, y < x → τ 67 y = τ 66 y) → ∀ y, y < 48 → σ' 67 y = τ 66 y) := by
    intro d
    induction d with
    | zero =>
      intro x τ hx
      refine ⟨τ, ?_, fun _ _ => rfl, fun q y hy => q y (by omega)⟩
      rw [X184_2_66_67, if_neg (by omega)]
    | succ d ih =>
      intro x τ hx
      obtain ⟨σ', a1, a2, a3⟩ := ih (x + 1) (zup τ 67 x (τ 66 x)) (by omega)
      have nx : Int.toNat (x : Int) = x := Int.toNat_natCast x
      refine ⟨σ', ?_, fun k hk => (a2 k hk).trans (zup_off hk), fun q y hy => ?_⟩
      · rw [X184_2_66_67, if_pos (by omega), zgd_pos (by omega), zgd_pos (by omega), nx, zw_nat1 (by omega)]
        exact a1
      · rw [a3 (fun z hz => ?_) y hy, zup_of (by omega)]
        rw [zup_of (k' := 66) (i' := z) (by omega)]
        by_cases c : z = x
        · rw [c, zup_at]
        · rw [zup_of (by omega)]; exact q z (by omega)
  obtain ⟨σ', a1, a2, a3⟩ := key 48 0 σ rfl
  refine ⟨σ', ?_, a2, a3 (fun _ q => by omega)⟩
  rw [X184_0_66_67]
  exact a1
theorem t184_i (σ : zSt) : ∃ σ', zE 184 0 [some (zR 67), some (zR 66), none] [] σ = zRV σ' ∧ (∀ k : Nat, k ≠ 66 → σ' k = σ k) ∧ ∀ x : Nat, x < 48 → σ' 66 x = σ 67 x := by
  have key : ∀ (d x : Nat) (τ : zSt), x + d = 48 → ∃ σ', zE 184 2 [some (zR 67), some (zR 66), some (zI (x : Int))] [] τ = zRV σ' ∧ (∀ k : Nat, k ≠ 66 → σ' k = τ k) ∧ ((∀ y, y < x → τ 66 y = τ 67 y) → ∀ y, y < 48 → σ' 66 y = τ 67 y) := by
    intro d
    induction d with
    | zero =>
      intro x τ hx
      refine ⟨τ, ?_, fun _ _ => rfl, fun q y hy => q y (by omega)⟩
      rw [X184_2_67_66, if_neg (by omega)]
    | succ d ih =>
      intro x τ hx
      obtain ⟨σ', a1, a2, a3⟩ := ih (x + 1) (zup τ 66 x (τ 67 x)) (by omega)
      have nx : Int.toNat (x : Int) = x := Int.toNat_natCast x
      refine ⟨σ', ?_, fun k hk => (a2 k hk).trans (zup_off hk), fun q y hy => ?_⟩
      · rw [X184_2_67_66, if_pos (by omega), zgd_pos (by omega), zgd_pos (by omega), nx, zw_nat1 (by omega)]
        exact a1
      · rw [a3 (fun z hz => ?_) y hy, zup_of (by omega)]
        rw [zup_of (k' := 67) (i' := z) (by omega)]
        by_cases c : z = x
        · rw [c, zup_at]
        · rw [zup_of (by omega)]; exact q z (by omega)
  obtain ⟨σ', a1, a2, a3⟩ := key 48 0 σ rfl
  refine ⟨σ', ?_, a2, a3 (fun _ q => by omega)⟩
  rw [X184_0_67_66]
  exact a1
end LAWR
