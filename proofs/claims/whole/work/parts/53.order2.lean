/-! ===== 53: an order, on the class's side ===== -/
def bdP (T : Row) (t : Nat) (k : Int) (a : Nat) : OR := if k = 106 then jP T t a else if k = 111 then oP T t a else if k = 100 then kP T t a else if k = 112 then pP T t a else .inr (a - 1)
/-- kind, first, second, third, next; or where it fails -/
abbrev OQ : Type := (Int × Int × Int × Int × Nat) ⊕ Nat
def enP (T : Row) (t : Nat) (k : Int) (r : OR) : OQ := match r with
  | .inl (f, s, u, b) => pb (sgP T t 59 b) fun _ c => .inl (k, f, s, u, c)
  | .inr e => .inr e
def orP (T : Row) (t a : Nat) : OQ := enP T t (nb T t a) (bdP T t (nb T t a) (a + 1))
/-- what the class's fields say of an order that is read -/
def OrC (σ' : zSt) (v : Int) (r : OQ) : Prop := match r with
  | .inl (k, f, s, u, c) => v = 1 ∧ σ' 8 2 = (c : Int) ∧ σ' 8 3 = -1 ∧ σ' 8 4 = k ∧ σ' 8 5 = f ∧ (k ≠ 112 → σ' 8 6 = s) ∧ (k = 111 ∨ k = 100 → σ' 8 7 = u)
  | .inr e => v = 0 ∧ σ' 8 3 = (e : Int)
def BdC (σ1 : zSt) (k : Int) (r : OR) : Prop := match r with
  | .inl (f, s, u, b) => σ1 8 2 = (b : Int) ∧ σ1 8 3 = -1 ∧ σ1 8 5 = f ∧ (k ≠ 112 → σ1 8 6 = s) ∧ (k = 111 ∨ k = 100 → σ1 8 7 = u) ∧ b ≤ 190
  | .inr e => σ1 8 3 = (e : Int)
theorem c121_fin {σ1 : zSt} {t : Nat} {T : Row} (h : TxC σ1 t T) {k : Int} (f4 : σ1 8 4 = k) {r : OR} (hr : BdC σ1 k r) : ∃ v σ', zE 121 128 [some (zR 8)] [] σ1 = zRI v σ' ∧ (∀ k, k ≠ 8 → σ' k = σ1 k) ∧ σ' 8 1 = σ1 8 1 ∧ OrC σ' v (enP T t k r) := by
  rw [X121_128]
  rcases r with ⟨f, s, u, b⟩ | e
  · obtain ⟨h2, h3, h5, h6, h7, hb⟩ := hr
    rw [s127 h h2 h3 (by omega) 59, zbV_some, zgd_pos (ite01 _)]
    unfold enP
    dsimp only
    rcases hs : sgP T t 59 b with ⟨w, c⟩ | e
    · dsimp only [goC, pb]
      have g3 : (zup σ1 8 2 (c : Int)) 8 3 = -1 := by rw [zup_of (by omega)]; exact h3
      refine ⟨_, _, rfl, fun k hk => zup_off hk, zup_of (by omega), ?_⟩
      unfold OrC
      dsimp only
      refine ⟨if_pos g3, zup_at _ _ _ _, g3, by rw [zup_of (by omega)]; exact f4, by rw [zup_of (by omega)]; exact h5, fun q => by rw [zup_of (by omega)]; exact h6 q, fun q => by rw [zup_of (by omega)]; exact h7 q⟩
    · dsimp only [goC, pb]
      refine ⟨_, _, rfl, fun k hk => zup_off hk, zup_of (by omega), ?_⟩
      unfold OrC
      dsimp only
      have g3 : ¬ (zup σ1 8 3 (e : Int)) 8 3 = -1 := by rw [zup_at]; omega
      exact ⟨if_neg g3, zup_at _ _ _ _⟩
  · have hr' : σ1 8 3 = (e : Int) := hr
    rw [s127e (by rw [hr']; omega), zbV_some, zgd_pos (ite01 _)]
    refine ⟨_, _, rfl, fun _ _ => rfl, rfl, ?_⟩
    unfold enP OrC
    dsimp only
    exact ⟨by rw [hr', if_neg (by omega)], hr'⟩
theorem jP_pos {T : Row} {t a b : Nat} {f s u : Int} (h : jP T t a = .inl (f, s, u, b)) : a < b ∧ b ≤ a + 10 ∧ (1 ≤ f ∧ f ≤ 9) ∧ 0 ≤ s ∧ s ≤ 999 := by
  unfold jP at h
  rcases h1 : dgP T t 1 9 a with ⟨x1, y1⟩ | e <;> rw [h1] at h <;> dsimp only [pb] at h
  · rcases h2 : sgP T t 44 y1 with ⟨x2, y2⟩ | e <;> rw [h2] at h <;> dsimp only [pb] at h
    · rcases h3 : nuP T t 3 0 999 y2 with ⟨x3, y3⟩ | e <;> rw [h3] at h <;> dsimp only [pb] at h
      · have a1 := dgP_pos h1
        have a2 := sgP_pos h2
        have a3 := nuP_pos h3
        cases h
        omega
      · cases h
    · cases h
  · cases h
theorem oP_pos {T : Row} {t a b : Nat} {f s u : Int} (h : oP T t a = .inl (f, s, u, b)) : a < b ∧ b ≤ a + 10 ∧ (0 ≤ f ∧ f ≤ 5) ∧ (0 ≤ s ∧ s ≤ 4) ∧ 1 ≤ u ∧ u ≤ 20 := by
  unfold oP at h
  rcases h1 : dgP T t 0 5 a with ⟨x1, y1⟩ | e <;> rw [h1] at h <;> dsimp only [pb] at h
  · rcases h2 : dgP T t 0 4 y1 with ⟨x2, y2⟩ | e <;> rw [h2] at h <;> dsimp only [pb] at h
    · rcases h3 : sgP T t 44 y2 with ⟨x3, y3⟩ | e <;> rw [h3] at h <;> dsimp only [pb] at h
      · rcases h4 : nuP T t 2 1 20 y3 with ⟨x4, y4⟩ | e <;> rw [h4] at h <;> dsimp only [pb] at h
        · have a1 := dgP_pos h1
          have a2 := dgP_pos h2
          have a3 := sgP_pos h3
          have a4 := nuP_pos h4
          cases h
          omega
        · cases h
      · cases h
    · cases h
  · cases h
theorem kP_pos {T : Row} {t a b : Nat} {f s u : Int} (h : kP T t a = .inl (f, s, u, b)) : a < b ∧ b ≤ a + 10 ∧ (0 ≤ f ∧ f ≤ 4) ∧ (0 ≤ s ∧ s ≤ 500) ∧ 1 ≤ u ∧ u ≤ 50 := by
  unfold kP at h
  rcases h1 : dgP T t 0 4 a with ⟨x1, y1⟩ | e <;> rw [h1] at h <;> dsimp only [pb] at h
  · rcases h2 : sgP T t 44 y1 with ⟨x2, y2⟩ | e <;> rw [h2] at h <;> dsimp only [pb] at h
    · rcases h3 : nuP T t 3 0 500 y2 with ⟨x3, y3⟩ | e <;> rw [h3] at h <;> dsimp only [pb] at h
      · rcases h4 : sgP T t 44 y3 with ⟨x4, y4⟩ | e <;> rw [h4] at h <;> dsimp only [pb] at h
        · rcases h5 : nuP T t 2 1 50 y4 with ⟨x5, y5⟩ | e <;> rw [h5] at h <;> dsimp only [pb] at h
          · have a1 := dgP_pos h1
            have a2 := sgP_pos h2
            have a3 := nuP_pos h3
            have a4 := sgP_pos h4
            have a5 := nuP_pos h5
            cases h
            omega
          · cases h
        · cases h
      · cases h
    · cases h
  · cases h
theorem pP_pos {T : Row} {t a b : Nat} {f s u : Int} (h : pP T t a = .inl (f, s, u, b)) : a < b ∧ b ≤ a + 10 ∧ 0 ≤ f ∧ f ≤ 3 := by
  unfold pP at h
  rcases h1 : dgP T t 0 3 a with ⟨x1, y1⟩ | e <;> rw [h1] at h <;> dsimp only [pb] at h
  · have a1 := dgP_pos h1
    cases h
    omega
  · cases h
theorem c121 {σ : zSt} {t : Nat} {T : Row} (h : TxC σ t T) {a : Nat} (ha : σ 8 2 = (a : Int)) (he : σ 8 3 = -1) (hat : a < t) : ∃ v σ', zE 121 0 [some (zR 8)] [] σ = zRI v σ' ∧ (∀ k, k ≠ 8 → σ' k = σ k) ∧ σ' 8 1 = (t : Int) ∧ OrC σ' v (orP T t a) := by
  have ht := h.1
  rw [X121_0, if_pos he, ha, h.2.1, if_pos (by omega), s125 h ha, zbI_some]
  have q2 : (zup σ 8 4 (nb T t a)) 8 2 = (a : Int) := by rw [zup_of (by omega)]; exact ha
  rw [q2, zw_nat1 (by omega)]
  have c0 : (∀ k, k ≠ 8 → (zup (zup σ 8 4 (nb T t a)) 8 2 ((a + 1 : Nat) : Int)) k = σ k) := fun k hk => by rw [zup_off hk, zup_off hk]
  have c1 : (zup (zup σ 8 4 (nb T t a)) 8 2 ((a + 1 : Nat) : Int)) 8 1 = σ 8 1 := by rw [zup_of (by omega), zup_of (by omega)]
  have c2 : (zup (zup σ 8 4 (nb T t a)) 8 2 ((a + 1 : Nat) : Int)) 8 2 = ((a + 1 : Nat) : Int) := zup_at _ _ _ _
  have c3 : (zup (zup σ 8 4 (nb T t a)) 8 2 ((a + 1 : Nat) : Int)) 8 3 = -1 := by rw [zup_of (by omega), zup_of (by omega)]; exact he
  have c4 : (zup (zup σ 8 4 (nb T t a)) 8 2 ((a + 1 : Nat) : Int)) 8 4 = nb T t a := by rw [zup_of (by omega), zup_at]
  generalize zup (zup σ 8 4 (nb T t a)) 8 2 ((a + 1 : Nat) : Int) = σ1 at *
  have h1 : TxC σ1 t T := ⟨ht, c1.trans h.2.1, fun i hi => by rw [c0 64 (by decide)]; exact h.2.2.1 i hi, h.2.2.2⟩
  have fin : ∀ (σ2 : zSt) (r : OR), Cs σ1 σ2 → BdC σ2 (nb T t a) r → bdP T t (nb T t a) (a + 1) = r → ∃ v σ', zE 121 128 [some (zR 8)] [] σ2 = zRI v σ' ∧ (∀ k, k ≠ 8 → σ' k = σ k) ∧ σ' 8 1 = (t : Int) ∧ OrC σ' v (orP T t a) := by
    intro σ2 r k1 k2 k3
    obtain ⟨v, σ', e1, e2, e3, e4⟩ := c121_fin (k1.tx h1) (k1.2.2.trans c4) k2
    refine ⟨v, σ', e1, fun k hk => (e2 k hk).trans ((k1.1 k hk).trans (c0 k hk)), (e3.trans (k1.2.1.trans c1)).trans h.2.1, ?_⟩
    unfold orP
    rw [k3]; exact e4
  rw [c4]
  by_cases k1 : nb T t a = 100
  · obtain ⟨σ2, e2, s2, m2⟩ := c124 h1 c2 c3 (by omega)
    rw [if_pos k1, e2, zbV_some]
    refine fin σ2 (kP T t (a + 1)) s2 ?_ (by unfold bdP; rw [if_neg (by omega), if_neg (by omega), if_pos k1])
    rcases hk : kP T t (a + 1) with ⟨f, s, u, b⟩ | e
    · rw [hk] at m2
      have := kP_pos hk
      exact ⟨m2.1, m2.2.1, m2.2.2.1, fun _ => m2.2.2.2.1, fun _ => m2.2.2.2.2, by omega⟩
    · rw [hk] at m2; exact m2
  · rw [if_neg k1]
    by_cases k2 : nb T t a = 106
    · obtain ⟨σ2, e2, s2, m2⟩ := c122 h1 c2 c3 (by omega)
      rw [if_pos k2, e2, zbV_some]
      refine fin σ2 (jP T t (a + 1)) s2 ?_ (by unfold bdP; rw [if_pos k2])
      rcases hk : jP T t (a + 1) with ⟨f, s, u, b⟩ | e
      · rw [hk] at m2
        have := jP_pos hk
        exact ⟨m2.1, m2.2.1, m2.2.2.1, fun _ => m2.2.2.2, fun q => by omega, by omega⟩
      · rw [hk] at m2; exact m2
    · rw [if_neg k2]
      by_cases k3 : nb T t a = 111
      · obtain ⟨σ2, e2, s2, m2⟩ := c123 h1 c2 c3 (by omega)
        rw [if_pos k3, e2, zbV_some]
        refine fin σ2 (oP T t (a + 1)) s2 ?_ (by unfold bdP; rw [if_neg k2, if_pos k3])
        rcases hk : oP T t (a + 1) with ⟨f, s, u, b⟩ | e
        · rw [hk] at m2
          have := oP_pos hk
          exact ⟨m2.1, m2.2.1, m2.2.2.1, fun _ => m2.2.2.2.1, fun _ => m2.2.2.2.2, by omega⟩
        · rw [hk] at m2; exact m2
      · rw [if_neg k3]
        by_cases k4 : nb T t a = 112
        · rw [if_pos k4, s128 h1 c2 c3 (by omega), zbI_some]
          refine fin _ (pP T t (a + 1)) ?_ ?_ (by unfold bdP; rw [if_neg k2, if_neg k3, if_neg k1, if_pos k4])
          · rcases hd : dgP T t 0 3 (a + 1) with ⟨f, b⟩ | e
            · exact ((Cs.rf σ1).up ⟨by decide, by decide⟩).up ⟨by decide, by decide⟩
            · exact ((Cs.rf σ1).up ⟨by decide, by decide⟩).up ⟨by decide, by decide⟩
          · unfold pP
            rcases hd : dgP T t 0 3 (a + 1) with ⟨f, b⟩ | e
            · have := dgP_pos hd
              dsimp only [goC, pb]
              exact ⟨by rw [zup_of (by omega), zup_at], by rw [zup_of (by omega), zup_of (by omega)]; exact c3, zup_at _ _ _ _, fun q => absurd k4 q, fun q => by omega, by omega⟩
            · dsimp only [goC, pb]
              show (zup (zup σ1 8 3 (e : Int)) 8 5 0) 8 3 = (e : Int)
              rw [zup_of (by omega), zup_at]
        · rw [if_neg k4, c2, zw_id (x := ((a + 1 : Nat) : Int) - 1) (by omega) (by omega)]
          refine fin _ (.inr a) ((Cs.rf σ1).up ⟨by decide, by decide⟩) ?_ (by unfold bdP; rw [if_neg k2, if_neg k3, if_neg k1, if_neg k4]; rfl)
          show (zup σ1 8 3 (((a + 1 : Nat) : Int) - 1)) 8 3 = (a : Int)
          rw [zup_at]; omega
