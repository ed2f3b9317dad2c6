/-! ===== 62: the law's shift: later by one, as long as something is in the way ===== -/
def pT (τ : zSt) (j o : Nat) : Int := τ 66 (16 * j + 4 * o + 3)
/-- something is in the way -/
def Late (S : Row) (p : Nat → Nat → Int) (j o : Nat) : Prop := (Hits S (5 * j + o) (p j o) ∨ ∃ o', o = o' + 1 ∧ p j o < p j o' + sU S (5 * j + o')) ∨ ∃ j' o', Live S j' o' ∧ sM S (5 * j' + o') = sM S (5 * j + o) ∧ sL S (5 * j' + o') < sL S (5 * j + o) ∧ p j o < p j' o' + sU S (5 * j' + o')
/-- where something is in the way, the start is still too early -/
theorem late_lt {S : Row} {p q : Nat → Nat → Int} (hq : ShEq S q) (hle : ∀ j o, Live S j o → p j o ≤ q j o) {j o : Nat} (hl : Live S j o) (h : Late S p j o) : p j o < q j o := by
  obtain ⟨m, h1, h2⟩ := hq j o hl
  have h0 := hle j o hl
  have dep : ∀ j' o', Live S j' o' → ((j' = j ∧ o' + 1 = o) ∨ (sM S (5 * j' + o') = sM S (5 * j + o) ∧ sL S (5 * j' + o') < sL S (5 * j + o))) → p j o < p j' o' + sU S (5 * j' + o') → p j o < q j o := by
    intro j' o' hl' hd hlt
    have h3 := h1.2.1 _ ⟨j', o', nJ_lt.mpr hl'.1, nO_lt.mpr hl'.2, hd, rfl⟩
    have h4 := h2.1
    have h5 := hle j' o' hl'
    omega
  rcases h with (h | ⟨o', e, hlt⟩) | ⟨j', o', hl', hm, hL, hlt⟩
  · by_cases e : p j o = q j o
    · rw [e] at h; exact absurd h h2.2.1
    · omega
  · subst e
    exact dep j o' ⟨hl.1, by have := hl.2; omega⟩ (Or.inl ⟨rfl, rfl⟩) hlt
  · exact dep j' o' hl' (Or.inr ⟨hm, hL⟩) hlt
/-- where nothing is in the way anywhere, the plan is the shifted one -/
theorem late_end {S : Row} {β : Int} (hV : VO S β) {p q : Nat → Nat → Int} (hq : ShEq S q) (hlo : ∀ j o, Live S j o → sL S (5 * j + o) ≤ p j o ∧ p j o ≤ q j o) (hn : ∀ j o, Live S j o → ¬ Late S p j o) : ∀ j o, Live S j o → p j o = q j o := by
  have key : ∀ (n : Nat) j o, Live S j o → (sL S (5 * j + o)).toNat ≤ n → p j o = q j o := by
    intro n
    induction n using Nat.strongRecOn with
    | _ n ih =>
      intro j o hl hn0
      obtain ⟨m, h1, h2⟩ := hq j o hl
      have h0 := hlo j o hl
      have hm : m ≤ p j o := by
        rcases h1.2.2 with e | ⟨j', o', a1, a2, hd, e⟩
        · omega
        · have hl' := liveN a1 a2
          have hlt : sL S (5 * j' + o') < sL S (5 * j + o) := by
            rcases hd with ⟨rfl, rfl⟩ | ⟨_, hd⟩
            · exact hV.2.1 j' o' hl
            · exact hd
          have hL := (hV.1 j' o' hl').1
          have e2 := ih (sL S (5 * j' + o')).toNat (by omega) j' o' hl' (Nat.le_refl _)
          refine Decidable.byContradiction (fun hc => hn j o hl ?_)
          rcases hd with ⟨rfl, hd⟩ | ⟨hd1, hd2⟩
          · exact Or.inl (Or.inr ⟨o', hd.symm, by omega⟩)
          · exact Or.inr ⟨j', o', hl', hd1, hd2, by omega⟩
      have hh : ¬ Hits S (5 * j + o) (p j o) := fun q => hn j o hl (Or.inl (Or.inl q))
      refine Decidable.byContradiction (fun hc => hh (h2.2.2 (p j o) hm (by omega)))
  intro j o hl
  exact key _ j o hl (Nat.le_refl _)
/-- how much is to go -/
def wk (S : Row) (q : Nat → Nat → Int) (τ : zSt) (k : Nat) : Int := if ((k % 4 : Nat) : Int) < rO S (k / 4) then q (k / 4) (k % 4) - τ 66 (4 * k + 3) else 0
def smN (S : Row) (q : Nat → Nat → Int) (τ : zSt) (n : Nat) : Int := f1 (fun k a => a + wk S q τ k) n 0
theorem smN_ge {S : Row} {q : Nat → Nat → Int} {τ : zSt} (h3 : L3 S) (h : ∀ j o, Live S j o → pT τ j o ≤ q j o) : ∀ n, n ≤ 12 → 0 ≤ smN S q τ n := by
  intro n
  induction n with
  | zero => intro _; exact Int.le_refl _
  | succ n ih =>
    intro hn
    have h1 := ih (by omega)
    show 0 ≤ smN S q τ n + wk S q τ n
    unfold wk
    by_cases c : ((n % 4 : Nat) : Int) < rO S (n / 4)
    · have h2 := h (n / 4) (n % 4) (h3.live (by omega) c)
      unfold pT at h2
      rw [show 16 * (n / 4) + 4 * (n % 4) + 3 = 4 * n + 3 by omega] at h2
      rw [if_pos c]; omega
    · rw [if_neg c]; omega
theorem smN_up {S : Row} {q : Nat → Nat → Int} {τ : zSt} {k : Nat} (hl : ((k % 4 : Nat) : Int) < rO S (k / 4)) : ∀ n, smN S q (zup τ 66 (4 * k + 3) (τ 66 (4 * k + 3) + 1)) n = smN S q τ n - (if k < n then 1 else 0) := by
  intro n
  induction n with
  | zero =>
    show (0 : Int) = 0 - _
    rw [if_neg (by omega)]; rfl
  | succ n ih =>
    show smN S q (zup τ 66 (4 * k + 3) (τ 66 (4 * k + 3) + 1)) n + wk S q (zup τ 66 (4 * k + 3) (τ 66 (4 * k + 3) + 1)) n = smN S q τ n + wk S q τ n - _
    rw [ih]
    unfold wk
    by_cases c : k = n
    · subst c
      rw [if_pos hl, if_pos hl, zup_at, if_neg (by omega), if_pos (by omega)]
      omega
    · rw [zup_of (by omega)]
      by_cases c2 : k < n
      · rw [if_pos c2, if_pos (c := k < n + 1) (by omega)]; omega
      · rw [if_neg c2, if_neg (c := k < n + 1) (by omega)]; omega
theorem zup_self (σ : zSt) (k i : Nat) : zup σ k i (σ k i) = σ := by
  funext k' i'
  unfold zup
  by_cases h : k' = k ∧ i' = i
  · rw [if_pos h, h.1, h.2]
  · rw [if_neg h]
/-- in a pass: v tells whether one has moved since τ0 -/
def PsI (S : Row) (q : Nat → Nat → Int) (σ τ0 : zSt) (e : Nat) (τ : zSt) (v : Int) : Prop := Fp σ τ ∧ (∀ j o, Live S j o → sL S (5 * j + o) ≤ pT τ j o ∧ pT τ j o ≤ q j o) ∧ (v = 0 ∨ v = 1) ∧ (v = 0 → τ = τ0 ∧ ∀ j o, Live S j o → 4 * j + o < e → ¬ Late S (pT τ0) j o) ∧ (v = 1 → smN S q τ 12 + 1 ≤ smN S q τ0 12)
section LAWS
variable {σ : zSt} {S : Row}
/-- what is in the way of one operation -/
theorem t182_late {τ : zSt} (h : Wst τ S) (h3 : L3 S) (hG : Good S) (ho : Wol τ S) {M : Int} (hM : 0 ≤ M ∧ M ≤ 800000) (hb : ∀ j o, Live S j o → 0 ≤ pT τ j o ∧ pT τ j o ≤ M) {j o : Nat} (hl : Live S j o) (v : Int) (o6 o7 o8 : Option zVal) :
    ∃ (v7 : Int) (p8 : Option zVal), (v7 = 0 ∨ v7 = 1) ∧ (v7 = 1 ↔ Late S (pT τ) j o) ∧ zE 182 46 [some (zR 9), some (zR 65), some (zR 66), some (zR 68), some (zI v), some (zI ((4 * j + o : Nat) : Int)), o6, o7, o8] [] τ = zE 182 46 [some (zR 9), some (zR 65), some (zR 66), some (zR 68), some (zI (if v = 0 then v7 else 1)), some (zI ((4 * j + o + 1 : Nat) : Int)), some (zI (pT τ j o)), some (zI v7), p8] [] (zup τ 66 (16 * j + 4 * o + 3) (pT τ j o + v7)) := by
  obtain ⟨hj, ho4⟩ := h3.j3 hl
  obtain ⟨q1, q2⟩ := e4 (j := j) ho4
  have hpb := hb j o hl
  have w0 : zw (4 * ((4 * j + o : Nat) : Int)) = 4 * ((4 * j + o : Nat) : Int) := zw_id (by omega) (by omega)
  have w2 : zw (4 * ((4 * j + o : Nat) : Int) + 2) = 4 * ((4 * j + o : Nat) : Int) + 2 := zw_id (by omega) (by omega)
  have w3 : zw (4 * ((4 * j + o : Nat) : Int) + 3) = 4 * ((4 * j + o : Nat) : Int) + 3 := zw_id (by omega) (by omega)
  have n0 : (4 * ((4 * j + o : Nat) : Int)).toNat = 16 * j + 4 * o := by omega
  have n2 : (4 * ((4 * j + o : Nat) : Int) + 2).toNat = 16 * j + 4 * o + 2 := by omega
  have n3 : (4 * ((4 * j + o : Nat) : Int) + 3).toNat = 16 * j + 4 * o + 3 := by omega
  have n3' : Int.toNat (4 * ((4 * j + o : Nat) : Int) + 3) = 16 * j + 4 * o + 3 := n3
  have ep : τ 66 (16 * j + 4 * o + 3) = pT τ j o := rfl
  have ends : ∀ {j' o' : Nat}, Live S j' o' → zE 173 0 [some (zI ((4 * j' + o' : Nat) : Int)), some (zI 3), some (zR 66)] [] τ = zRI (pT τ j' o' + sU S (5 * j' + o')) τ := by
    intro j' o' hl'
    obtain ⟨a1, a2⟩ := h3.j3 hl'
    have g5 := (hG.2.2.1 j' o' hl'.1 hl'.2).2
    have g6 := hb j' o' hl'
    have e := t173 (σ := τ) a1 a2 (q := 3) (by omega)
    have e9 : τ 66 (16 * j' + 4 * o' + 3) = pT τ j' o' := rfl
    rw [e9, (h.2.2.1 j' o' hl').2, zw_id (by omega) (by omega)] at e
    exact e
  -- over the others
  have loop : ∀ (d k : Nat) (v7 : Int), k + d = 12 → (v7 = 0 ∨ v7 = 1) → (v7 = 1 ↔ ((Hits S (5 * j + o) (pT τ j o) ∨ ∃ o', o = o' + 1 ∧ pT τ j o < pT τ j o' + sU S (5 * j + o')) ∨ ∃ j' o', 4 * j' + o' < k ∧ Live S j' o' ∧ sM S (5 * j' + o') = sM S (5 * j + o) ∧ sL S (5 * j' + o') < sL S (5 * j + o) ∧ pT τ j o < pT τ j' o' + sU S (5 * j' + o'))) →
      ∃ (v7' : Int) (p8 : Option zVal), (v7' = 0 ∨ v7' = 1) ∧ (v7' = 1 ↔ Late S (pT τ) j o) ∧ zE 182 119 [some (zR 9), some (zR 65), some (zR 66), some (zR 68), some (zI v), some (zI ((4 * j + o : Nat) : Int)), some (zI (pT τ j o)), some (zI v7), some (zI (k : Int))] [] τ = zE 182 46 [some (zR 9), some (zR 65), some (zR 66), some (zR 68), some (zI (if v = 0 then v7' else 1)), some (zI ((4 * j + o + 1 : Nat) : Int)), some (zI (pT τ j o)), some (zI v7'), p8] [] (zup τ 66 (16 * j + 4 * o + 3) (pT τ j o + v7')) := by
    intro d
    induction d with
    | zero =>
      intro k v7 hd hv hi
      refine ⟨v7, some (zI (k : Int)), hv, hi.trans ⟨fun q => q.imp id (fun ⟨j', o', _, a⟩ => ⟨j', o', a⟩), fun q => q.imp id (fun ⟨j', o', a1, a2⟩ => ⟨j', o', by
        have := h3.j3 a1
        omega, a1, a2⟩)⟩, ?_⟩
      have e7 : (if v7 = 0 then 0 else 1 : Int) = v7 := by rcases hv with w | w <;> rw [w] <;> rfl
      rw [X182_119, if_neg (by omega), w0, w3, n3, zgd_pos (by omega), e7, X182_218, n3', e7, ep, zgd_pos (by omega), zw_id (x := ((4 * j + o : Nat) : Int) + 1) (by omega) (by omega), zw_id (x := pT τ j o + v7) (by omega) (by omega)]
      rfl
    | succ d ih =>
      intro k v7 hd hv hi
      obtain ⟨j', o', hk, ho'⟩ : ∃ j' o' : Nat, k = 4 * j' + o' ∧ o' < 4 := ⟨k / 4, k % 4, by omega, by omega⟩
      have hj3 : j' < 3 := by omega
      have nx : zw ((k : Int) + 1) = ((k + 1 : Nat) : Int) := zw_nat1 (by omega)
      have ext : ∀ w : Int, (w = 0 ∨ w = 1) → (w = 1 ↔ (v7 = 1 ∨ (Live S j' o' ∧ sM S (5 * j' + o') = sM S (5 * j + o) ∧ sL S (5 * j' + o') < sL S (5 * j + o) ∧ pT τ j o < pT τ j' o' + sU S (5 * j' + o')))) →
          ∃ (v7' : Int) (p8 : Option zVal), (v7' = 0 ∨ v7' = 1) ∧ (v7' = 1 ↔ Late S (pT τ) j o) ∧ zE 182 119 [some (zR 9), some (zR 65), some (zR 66), some (zR 68), some (zI v), some (zI ((4 * j + o : Nat) : Int)), some (zI (pT τ j o)), some (zI w), some (zI ((k + 1 : Nat) : Int))] [] τ = zE 182 46 [some (zR 9), some (zR 65), some (zR 66), some (zR 68), some (zI (if v = 0 then v7' else 1)), some (zI ((4 * j + o + 1 : Nat) : Int)), some (zI (pT τ j o)), some (zI v7'), p8] [] (zup τ 66 (16 * j + 4 * o + 3) (pT τ j o + v7')) := fun w hw hi2 =>
        ih (k + 1) w (by omega) hw (hi2.trans ⟨fun q => q.elim (fun q => (hi.mp q).imp id (fun ⟨a, b, c1, c2⟩ => ⟨a, b, by omega, c2⟩)) (fun q => Or.inr ⟨j', o', by omega, q⟩), fun q => q.elim (fun q => Or.inl (hi.mpr (Or.inl q))) (fun ⟨a, b, c1, c2⟩ => by
          have hab := h3.j3 c2.1
          by_cases e : a = j' ∧ b = o'
          · obtain ⟨rfl, rfl⟩ := e
            exact Or.inr c2
          · exact Or.inl (hi.mpr (Or.inr ⟨a, b, by omega, c2⟩)))⟩)
      rw [X182_119, if_pos (by omega), nx]
      rcases hv with hv | hv
      · subst hv
        have no : ¬ (Live S j' o' ∧ sM S (5 * j' + o') = sM S (5 * j + o) ∧ sL S (5 * j' + o') < sL S (5 * j + o) ∧ pT τ j o < pT τ j' o' + sU S (5 * j' + o')) → _ := fun hn => ext 0 (Or.inl rfl) ⟨fun q => absurd q (by decide), fun q => q.elim (fun q => q) (fun q => absurd q hn)⟩
        have e172 := t172 h hj3 ho'
        rw [← hk] at e172
        rw [if_pos rfl, e172, zbI_some]
        by_cases c1 : (o' : Int) < rO S j'
        · have hl' : Live S j' o' := h3.live hj3 c1
          have v0 : zw (4 * (k : Int)) = 4 * (k : Int) := zw_id (by omega) (by omega)
          have v2 : zw (4 * (k : Int) + 2) = 4 * (k : Int) + 2 := zw_id (by omega) (by omega)
          have m0 : (4 * (k : Int)).toNat = 16 * j' + 4 * o' := by omega
          have m2 : (4 * (k : Int) + 2).toNat = 16 * j' + 4 * o' + 2 := by omega
          rw [if_pos c1, if_neg i10, v0, w0, m0, n0, v2, m2, w2, n2, zgd_pos (by omega), zgd_pos (by omega), (h.2.2.1 j' o' hl').1, (h.2.2.1 j o hl).1]
          by_cases c2 : sM S (5 * j' + o') = sM S (5 * j + o)
          · rw [if_pos c2, zgd_pos (by omega), zgd_pos (by omega), ho j' o' hl', ho j o hl]
            by_cases c3 : sL S (5 * j' + o') < sL S (5 * j + o)
            · have e173 := ends hl'
              rw [← hk] at e173
              rw [if_pos c3, e173, zbI_some]
              by_cases c5 : pT τ j' o' + sU S (5 * j' + o') ≤ pT τ j o
              · rw [if_pos c5]
                exact no (fun q => by have := q.2.2.2; omega)
              · rw [if_neg c5]
                exact ext 1 (Or.inr rfl) ⟨fun _ => Or.inr ⟨hl', c2, c3, by omega⟩, fun _ => rfl⟩
            · rw [if_neg c3]
              exact no (fun q => c3 q.2.2.1)
          · rw [if_neg c2]
            exact no (fun q => c2 q.2.1)
        · rw [if_neg c1, if_pos rfl]
          exact no (fun q => c1 q.1.2)
      · subst hv
        rw [if_neg (by decide)]
        exact ext 1 (Or.inr rfl) ⟨fun _ => Or.inl rfl, fun _ => rfl⟩
  have start : ∀ v7 : Int, (v7 = 0 ∨ v7 = 1) → (v7 = 1 ↔ (Hits S (5 * j + o) (pT τ j o) ∨ ∃ o', o = o' + 1 ∧ pT τ j o < pT τ j o' + sU S (5 * j + o'))) →
      ∃ (v7' : Int) (p8 : Option zVal), (v7' = 0 ∨ v7' = 1) ∧ (v7' = 1 ↔ Late S (pT τ) j o) ∧ zE 182 119 [some (zR 9), some (zR 65), some (zR 66), some (zR 68), some (zI v), some (zI ((4 * j + o : Nat) : Int)), some (zI (pT τ j o)), some (zI v7), some (zI 0)] [] τ = zE 182 46 [some (zR 9), some (zR 65), some (zR 66), some (zR 68), some (zI (if v = 0 then v7' else 1)), some (zI ((4 * j + o + 1 : Nat) : Int)), some (zI (pT τ j o)), some (zI v7'), p8] [] (zup τ 66 (16 * j + 4 * o + 3) (pT τ j o + v7')) := fun v7 hv hi =>
    loop 12 0 v7 rfl hv (hi.trans ⟨fun q => Or.inl q, fun q => q.elim id (fun ⟨a, b, c, _⟩ => by omega)⟩)
  obtain ⟨k1, k2⟩ := t174 h h3 hG hl (t := pT τ j o) (by omega)
  rw [X182_46, if_pos (by omega), t172 h hj ho4, zbI_some, if_pos hl.2, if_neg i10, w0, w3, n3, ep, zgd_pos (by omega)]
  by_cases c : Hits S (5 * j + o) (pT τ j o)
  · rw [k1 c, zbI_some, if_neg i10]
    exact start 1 (Or.inr rfl) ⟨fun _ => Or.inl c, fun _ => rfl⟩
  · rw [k2 c, zbI_some, if_pos rfl, zgd_pos (by omega), q2]
    by_cases c0 : o = 0
    · rw [if_pos (by omega)]
      exact start 0 (Or.inl rfl) ⟨fun q => absurd q (by decide), fun q => q.elim (fun q => absurd q c) (fun ⟨o', e, _⟩ => by omega)⟩
    · have hl' : Live S j (o - 1) := ⟨hl.1, by have := hl.2; omega⟩
      have ew : zw (((4 * j + o : Nat) : Int) - 1) = ((4 * j + (o - 1) : Nat) : Int) := by rw [zw_id (by omega) (by omega)]; omega
      rw [if_neg (by omega), ew, ends hl', zbI_some]
      by_cases c5 : pT τ j (o - 1) + sU S (5 * j + (o - 1)) ≤ pT τ j o
      · rw [if_pos c5]
        refine start 0 (Or.inl rfl) ⟨fun q => absurd q (by decide), fun q => q.elim (fun q => absurd q c) (fun ⟨o', e, q⟩ => ?_)⟩
        subst e
        exact absurd q (by rw [show o' + 1 - 1 = o' by omega] at c5; omega)
      · rw [if_neg c5]
        exact start 1 (Or.inr rfl) ⟨fun _ => Or.inr ⟨o - 1, by omega, by omega⟩, fun _ => rfl⟩
theorem pT_up {τ : zSt} {j o j' o' : Nat} {v : Int} (ho : o < 4) (ho' : o' < 4) : pT (zup τ 66 (16 * j + 4 * o + 3) v) j' o' = if j' = j ∧ o' = o then v else pT τ j' o' := by
  unfold pT
  by_cases c : j' = j ∧ o' = o
  · rw [if_pos c, c.1, c.2, zup_at]
  · rw [if_neg c, zup_of (by omega)]
/-- one pass -/
theorem t182_pass (h : Wst σ S) (h3 : L3 S) (hG : Good S) (ho : Wol σ S) {β M : Int} (hV : VO S β) {q : Nat → Nat → Int} (hq : ShEq S q) (hM : 0 ≤ M ∧ M ≤ 800000) (hqM : ∀ j o, Live S j o → q j o ≤ M) (τ0 : zSt) : ∀ (d e : Nat) (τ : zSt) (v : Int) (o6 o7 o8 : Option zVal), e + d = 12 → PsI S q σ τ0 e τ v →
    ∃ τ' v' p6 p7 p8, zE 182 46 [some (zR 9), some (zR 65), some (zR 66), some (zR 68), some (zI v), some (zI (e : Int)), o6, o7, o8] [] τ = zE 182 35 [some (zR 9), some (zR 65), some (zR 66), some (zR 68), some (zI v'), some (zI 12), p6, p7, p8] [] τ' ∧ PsI S q σ τ0 12 τ' v' := by
  intro d
  induction d with
  | zero =>
    intro e τ v o6 o7 o8 he hi
    have : e = 12 := by omega
    subst this
    exact ⟨τ, v, o6, o7, o8, by rw [X182_46, if_neg (by decide)]; rfl, hi⟩
  | succ d ih =>
    intro e τ v o6 o7 o8 he hi
    obtain ⟨j, o, hk, ho4⟩ : ∃ j o : Nat, e = 4 * j + o ∧ o < 4 := ⟨e / 4, e % 4, by omega, by omega⟩
    have hj3 : j < 3 := by omega
    obtain ⟨i1, i2, i3, i4, i5⟩ := hi
    have hw := i1.fo.ls h
    have hol := i1.ll ho
    by_cases c1 : (o : Int) < rO S j
    · have hl : Live S j o := h3.live hj3 c1
      have hb : ∀ j o, Live S j o → 0 ≤ pT τ j o ∧ pT τ j o ≤ M := fun j o hl => by
        have := i2 j o hl; have := (hV.1 j o hl).1; have := hqM j o hl
        omega
      obtain ⟨v7, p8, a1, a2, a3⟩ := t182_late hw h3 hG hol hM hb hl v o6 o7 o8
      rw [← hk] at a3
      have hfp : Fp σ (zup τ 66 (16 * j + 4 * o + 3) (pT τ j o + v7)) := i1.trans (Fp.up (by omega))
      rcases a1 with w | w
      · subst w
        have hid : zup τ 66 (16 * j + 4 * o + 3) (pT τ j o + 0) = τ := by
          rw [Int.add_zero]; exact zup_self _ _ _
        have hvv : (if v = 0 then 0 else 1 : Int) = v := by rcases i3 with w | w <;> rw [w] <;> rfl
        rw [hid, hvv] at a3
        obtain ⟨τ', v', p6, p7, p8', b1, b2⟩ := ih (e + 1) τ v (some (zI (pT τ j o))) (some (zI 0)) p8 (by omega) ⟨i1, i2, i3, fun hv => by
          obtain ⟨f1, f2⟩ := i4 hv
          refine ⟨f1, fun j' o' hl' hlt => ?_⟩
          have hab := h3.j3 hl'
          by_cases c : j' = j ∧ o' = o
          · obtain ⟨rfl, rfl⟩ := c
            intro q
            rw [← f1] at q
            exact absurd (a2.mpr q) (by decide)
          · exact f2 j' o' hl' (by omega), i5⟩
        exact ⟨τ', v', p6, p7, p8', a3.trans b1, b2⟩
      · subst w
        have hlt := late_lt hq (fun j o hl => (i2 j o hl).2) hl (a2.mp rfl)
        have hvv : (if v = 0 then 1 else 1 : Int) = 1 := by split <;> rfl
        rw [hvv] at a3
        have hsm := smN_up (S := S) (q := q) (τ := τ) (k := e) (by rw [show e % 4 = o by omega, show e / 4 = j by omega]; exact c1) 12
        rw [if_pos (by omega)] at hsm
        have eidx : 16 * j + 4 * o + 3 = 4 * e + 3 := by omega
        have ept : pT τ j o = τ 66 (4 * e + 3) := by unfold pT; rw [eidx]
        obtain ⟨τ', v', p6, p7, p8', b1, b2⟩ := ih (e + 1) (zup τ 66 (16 * j + 4 * o + 3) (pT τ j o + 1)) 1 (some (zI (pT τ j o))) (some (zI 1)) p8 (by omega) ⟨hfp, fun j' o' hl' => by
          have hab := h3.j3 hl'
          rw [pT_up ho4 hab.2]
          by_cases c : j' = j ∧ o' = o
          · rw [if_pos c, c.1, c.2]
            have := i2 j o hl
            omega
          · rw [if_neg c]; exact i2 j' o' hl', Or.inr rfl, fun q => absurd q (by decide), fun _ => by
          rw [eidx, ept, hsm]
          rcases i3 with w | w
          · rw [(i4 w).1]; omega
          · have := i5 w; omega⟩
        exact ⟨τ', v', p6, p7, p8', a3.trans b1, b2⟩
    · have e172 := t172 hw hj3 ho4
      rw [← hk] at e172
      obtain ⟨τ', v', p6, p7, p8, b1, b2⟩ := ih (e + 1) τ v o6 o7 o8 (by omega) ⟨i1, i2, i3, fun hv => by
        obtain ⟨f1, f2⟩ := i4 hv
        refine ⟨f1, fun j' o' hl' hlt => ?_⟩
        have hab := h3.j3 hl'
        by_cases c : j' = j ∧ o' = o
        · obtain ⟨rfl, rfl⟩ := c
          exact absurd hl'.2 c1
        · exact f2 j' o' hl' (by omega), i5⟩
      refine ⟨τ', v', p6, p7, p8, ?_, b2⟩
      rw [X182_46, if_pos (by omega), e172, zbI_some, if_neg c1, if_pos rfl, zw_nat1 (by omega)]
      exact b1
theorem t182_go (h : Wst σ S) (h3 : L3 S) (hG : Good S) (ho : Wol σ S) {β M : Int} (hV : VO S β) {q : Nat → Nat → Int} (hq : ShEq S q) (hM : 0 ≤ M ∧ M ≤ 800000) (hqM : ∀ j o, Live S j o → q j o ≤ M) : ∀ (N : Nat) (τ : zSt) (o5 o6 o7 o8 : Option zVal), smN S q τ 12 ≤ N → Fp σ τ → (∀ j o, Live S j o → sL S (5 * j + o) ≤ pT τ j o ∧ pT τ j o ≤ q j o) →
    ∃ τ', zE 182 35 [some (zR 9), some (zR 65), some (zR 66), some (zR 68), some (zI 1), o5, o6, o7, o8] [] τ = zRV τ' ∧ Fp σ τ' ∧ ∀ j o, Live S j o → pT τ' j o = q j o := by
  intro N
  induction N with
  | zero =>
    intro τ o5 o6 o7 o8 hN hf hb
    obtain ⟨τ', v', p6, p7, p8, b1, b2, b3, b4, b5, b6⟩ := t182_pass h h3 hG ho hV hq hM hqM τ 12 0 τ 0 o6 o7 o8 rfl ⟨hf, hb, Or.inl rfl, fun _ => ⟨rfl, fun j o _ q => by omega⟩, fun q => absurd q (by decide)⟩
    have b1' : zE 182 46 [some (zR 9), some (zR 65), some (zR 66), some (zR 68), some (zI 0), some (zI 0), o6, o7, o8] [] τ = _ := b1
    rcases b4 with w | w
    · obtain ⟨f1, f2⟩ := b5 w
      subst f1
      refine ⟨τ', ?_, b2, late_end hV hq b3 (fun j o hl => f2 j o hl (by have := h3.j3 hl; omega))⟩
      rw [X182_35, if_neg (by decide), b1', w, X182_35, if_pos rfl]
    · have := b6 w
      have := smN_ge h3 (fun j o hl => (b3 j o hl).2) 12 (Nat.le_refl _)
      omega
  | succ N ih =>
    intro τ o5 o6 o7 o8 hN hf hb
    obtain ⟨τ', v', p6, p7, p8, b1, b2, b3, b4, b5, b6⟩ := t182_pass h h3 hG ho hV hq hM hqM τ 12 0 τ 0 o6 o7 o8 rfl ⟨hf, hb, Or.inl rfl, fun _ => ⟨rfl, fun j o _ q => by omega⟩, fun q => absurd q (by decide)⟩
    have b1' : zE 182 46 [some (zR 9), some (zR 65), some (zR 66), some (zR 68), some (zI 0), some (zI 0), o6, o7, o8] [] τ = _ := b1
    rw [X182_35, if_neg (by decide), b1']
    rcases b4 with w | w
    · obtain ⟨f1, f2⟩ := b5 w
      subst f1
      refine ⟨τ', ?_, b2, late_end hV hq b3 (fun j o hl => f2 j o hl (by have := h3.j3 hl; omega))⟩
      rw [w, X182_35, if_pos rfl]
    · have := b6 w
      rw [w]
      exact ih τ' _ _ _ _ (by omega) b2 b3
/-- the law's shift -/
theorem t182 (h : Wst σ S) (h3 : L3 S) (hG : Good S) (ho : Wol σ S) {β M : Int} (hV : VO S β) {q : Nat → Nat → Int} (hq : ShEq S q) (hM : 0 ≤ M ∧ M ≤ 800000) (hqM : ∀ j o, Live S j o → q j o ≤ M) : ∃ σ', zE 182 0 [some (zR 9), some (zR 65), some (zR 66), some (zR 68), none, none, none, none, none] [] σ = zRV σ' ∧ Fp σ σ' ∧ ∀ j o, Live S j o → pT σ' j o = q j o := by
  have l1 : ∀ (d e : Nat) (τ : zSt), e + d = 12 → ∃ σ1, zE 182 3 [some (zR 9), some (zR 65), some (zR 66), some (zR 68), some (zI (e : Int)), none, none, none, none] [] τ = zE 182 35 [some (zR 9), some (zR 65), some (zR 66), some (zR 68), some (zI 1), none, none, none, none] [] σ1 ∧ Fp τ σ1 ∧ ((∀ e', e' < e → τ 66 (4 * e' + 3) = τ 66 (4 * e' + 2)) → ∀ e', e' < 12 → σ1 66 (4 * e' + 3) = τ 66 (4 * e' + 2)) := by
    intro d
    induction d with
    | zero =>
      intro e τ he
      refine ⟨τ, ?_, Fp.rf τ, fun q e' he' => q e' (by omega)⟩
      rw [X182_3, if_neg (by omega)]
    | succ d ih =>
      intro e τ he
      have w0 : zw (4 * (e : Int)) = 4 * (e : Int) := zw_id (by omega) (by omega)
      have w2 : zw (4 * (e : Int) + 2) = 4 * (e : Int) + 2 := zw_id (by omega) (by omega)
      have w3 : zw (4 * (e : Int) + 3) = 4 * (e : Int) + 3 := zw_id (by omega) (by omega)
      have n2 : (4 * (e : Int) + 2).toNat = 4 * e + 2 := by omega
      have n3 : (4 * (e : Int) + 3).toNat = 4 * e + 3 := by omega
      obtain ⟨σ1, a1, a2, a3⟩ := ih (e + 1) (zup τ 66 (4 * e + 3) (τ 66 (4 * e + 2))) (by omega)
      refine ⟨σ1, ?_, (Fp.up (by omega)).trans a2, fun q e' he' => ?_⟩
      · rw [X182_3, if_pos (by omega), w0, w2, w3, n2, n3, zgd_pos (by omega), zgd_pos (by omega), zw_nat1 (by omega)]
        exact a1
      · rw [a3 (fun e2 he2 => ?_) e' he', zup_of (by omega)]
        rw [zup_of (k' := 66) (i' := 4 * e2 + 2) (by omega)]
        by_cases c : e2 = e
        · rw [c, zup_at]
        · rw [zup_of (by omega)]; exact q e2 (by omega)
  obtain ⟨σ1, a1, a2, a3⟩ := l1 12 0 σ (by omega)
  have hb : ∀ j o, Live S j o → sL S (5 * j + o) ≤ pT σ1 j o ∧ pT σ1 j o ≤ q j o := by
    intro j o hl
    have hab := h3.j3 hl
    have e : pT σ1 j o = sL S (5 * j + o) := by
      unfold pT
      rw [show 16 * j + 4 * o + 3 = 4 * (4 * j + o) + 3 by omega, a3 (fun _ q => by omega) (4 * j + o) (by omega), show 4 * (4 * j + o) + 2 = 16 * j + 4 * o + 2 by omega]
      exact ho j o hl
    rw [e]
    obtain ⟨m, h1, h2⟩ := hq j o hl
    have := h1.1; have := h2.1
    omega
  obtain ⟨σ', b1, b2, b3⟩ := t182_go h h3 hG ho hV hq hM hqM (smN S q σ1 12).toNat σ1 none none none none (by omega) a2 hb
  have a1' : zE 182 3 [some (zR 9), some (zR 65), some (zR 66), some (zR 68), some (zI 0), none, none, none, none] [] σ = _ := a1
  refine ⟨σ', ?_, b2, b3⟩
  rw [X182_0, a1', b1]
end LAWS
