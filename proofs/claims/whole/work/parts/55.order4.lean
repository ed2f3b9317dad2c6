/-! ===== 55: a whole order, on the model's side ===== -/
def OrM (τ' : zSt) (v : Int) (r : OQ) : Prop := match r with
  | .inl (k, f, s, u, c) => v = 1 ∧ τ' 9 7 = (c : Int) ∧ τ' 9 8 = k ∧ τ' 9 9 = f ∧ (k ≠ 112 → τ' 9 10 = s) ∧ (k = 111 ∨ k = 100 → τ' 9 11 = u)
  | .inr e => v = 0 ∧ τ' 9 7 = (e : Int)
/-- what reading leaves as it was -/
def Mr (τ τ' : zSt) : Prop := (∀ k, k ≠ 9 → τ' k = τ k) ∧ τ' 9 6 = τ 9 6 ∧ τ' 9 4 = τ 9 4 ∧ τ' 9 0 = τ 9 0
theorem m112_fin {τ1 : zSt} {t : Nat} {T : Row} (h : TxM τ1 t T) {k : Int} (f8 : τ1 9 8 = k) {v : Int} {r : OR} (hr : BdM τ1 v k r) (hb : ∀ f s u b, r = .inl (f, s, u, b) → b ≤ 190) : ∃ v' τ', zE 112 152 [some (zR 9), some (zI v)] [] τ1 = zRI v' τ' ∧ Mr τ1 τ' ∧ OrM τ' v' (enP T t k r) := by
  rw [X112_152]
  rcases r with ⟨f, s, u, b⟩ | e
  · obtain ⟨h1, h2, h3, h4, h5⟩ := hr
    have := hb f s u b rfl
    rw [h1, if_neg i10, s106 h h2 (by omega) 59]
    unfold enP
    dsimp only
    rcases hs : sgP T t 59 b with ⟨w, c⟩ | e
    · dsimp only [pb]
      rw [zbI_some, if_neg i10, zgd_pos (Or.inr rfl)]
      exact ⟨1, _, rfl, ⟨fun k hk => zup_off hk, zup_of (by omega), zup_of (by omega), zup_of (by omega)⟩, rfl, zup_at _ _ _ _, by rw [zup_of (by omega)]; exact f8, by rw [zup_of (by omega)]; exact h3, fun q => by rw [zup_of (by omega)]; exact h4 q, fun q => by rw [zup_of (by omega)]; exact h5 q⟩
    · dsimp only [pb]
      rw [zbI_some, if_pos rfl, zgd_pos (Or.inl rfl)]
      exact ⟨0, _, rfl, ⟨fun k hk => zup_off hk, zup_of (by omega), zup_of (by omega), zup_of (by omega)⟩, rfl, zup_at _ _ _ _⟩
  · obtain ⟨h1, h2⟩ := hr
    rw [h1, if_pos rfl]
    exact ⟨0, _, rfl, ⟨fun _ _ => rfl, rfl, rfl, rfl⟩, rfl, h2⟩
theorem Mr.trans {a b c : zSt} (h : Mr a b) (h' : Mr b c) : Mr a c := ⟨fun k hk => (h'.1 k hk).trans (h.1 k hk), h'.2.1.trans h.2.1, h'.2.2.1.trans h.2.2.1, h'.2.2.2.trans h.2.2.2⟩
theorem Ms.mr {a b : zSt} (h : Ms a b) : Mr a b := ⟨h.1, h.2.1, h.2.2.1, h.2.2.2.1⟩
theorem m112 {τ : zSt} {t : Nat} {T : Row} (h : TxM τ t T) {a : Nat} (ha : τ 9 7 = (a : Int)) (hat : a < t) : ∃ v τ', zE 112 0 [some (zR 9), none] [] τ = zRI v τ' ∧ Mr τ τ' ∧ OrM τ' v (orP T t a) := by
  have ht := h.1
  have g8 : (zup τ 9 8 (nb T t a)) 9 8 = nb T t a := zup_at _ _ _ _
  have g7 : (zup τ 9 8 (nb T t a)) 9 7 = (a : Int) := by rw [zup_of (by omega)]; exact ha
  have m0 : Mr τ (zup τ 9 8 (nb T t a)) := ⟨fun k hk => zup_off hk, zup_of (by omega), zup_of (by omega), zup_of (by omega)⟩
  have h1 : TxM (zup τ 9 8 (nb T t a)) t T := h.go (by decide)
  rw [X112_0, s105 h ha, zbI_some, g8]
  generalize zup τ 9 8 (nb T t a) = τ1 at *
  have s2 : Ms τ1 (zup τ1 9 7 ((a + 1 : Nat) : Int)) := (Ms.rf τ1).up ⟨by decide, by decide, by decide, by decide⟩
  have q7 : (zup τ1 9 7 ((a + 1 : Nat) : Int)) 9 7 = ((a + 1 : Nat) : Int) := zup_at _ _ _ _
  have q8 : (zup τ1 9 7 ((a + 1 : Nat) : Int)) 9 8 = nb T t a := by rw [zup_of (by omega)]; exact g8
  have fin : ∀ (τ2 : zSt) (v : Int) (r : OR), Ms τ1 τ2 → BdM τ2 v (nb T t a) r → bdP T t (nb T t a) (a + 1) = r → (∀ f s u b, r = .inl (f, s, u, b) → b ≤ 190) → ∃ v' τ', zE 112 152 [some (zR 9), some (zI v)] [] τ2 = zRI v' τ' ∧ Mr τ τ' ∧ OrM τ' v' (orP T t a) := by
    intro τ2 v r k1 k2 k3 k4
    obtain ⟨v', τ', e1, e2, e3⟩ := m112_fin (k1.tx h1) (k1.2.2.2.2.trans g8) k2 k4
    refine ⟨v', τ', e1, (m0.trans k1.mr).trans e2, ?_⟩
    unfold orP
    rw [k3]; exact e3
  have on : zE 112 44 [some (zR 9), none] [] τ1 = zE 112 64 [some (zR 9), some (zI 1)] [zI 1, zI (a : Int), zR 9] τ1 := by
    rw [X112_44, X112_49, if_neg i10, g7]
  have step : ∀ (τ2 : zSt) (v : Int) (r : OR), Ms (zup τ1 9 7 ((a + 1 : Nat) : Int)) τ2 → BdM τ2 v (nb T t a) r → bdP T t (nb T t a) (a + 1) = r → (∀ f s u b, r = .inl (f, s, u, b) → b ≤ 190) → ∃ v' τ', zE 112 152 [some (zR 9), some (zI v)] [] τ2 = zRI v' τ' ∧ Mr τ τ' ∧ OrM τ' v' (orP T t a) := fun τ2 v r n2 => fin τ2 v r ⟨fun k hk => (n2.1 k hk).trans (s2.1 k hk), n2.2.1.trans s2.2.1, n2.2.2.1.trans s2.2.2.1, n2.2.2.2.1.trans s2.2.2.2.1, n2.2.2.2.2.trans s2.2.2.2.2⟩
  by_cases k2 : nb T t a = 106
  · obtain ⟨v, τ2, e2, n2, b2⟩ := m109 (s2.tx h1) q7 (by omega)
    rw [if_pos k2, on, X112_64, zw_nat1 (by omega), q8, if_pos k2, e2, zbI_some]
    exact step τ2 v (jP T t (a + 1)) n2 (by rw [k2]; exact b2) (by unfold bdP; rw [if_pos k2]) (fun f s u b q => by have := jP_pos q; omega)
  · rw [if_neg k2]
    by_cases k3 : nb T t a = 111
    · obtain ⟨v, τ2, e2, n2, b2⟩ := m110 (s2.tx h1) q7 (by omega)
      rw [if_pos k3, on, X112_64, zw_nat1 (by omega), q8, if_neg k2, if_pos k3, e2, zbI_some]
      exact step τ2 v (oP T t (a + 1)) n2 (by rw [k3]; exact b2) (by unfold bdP; rw [if_neg k2, if_pos k3]) (fun f s u b q => by have := oP_pos q; omega)
    · rw [if_neg k3]
      by_cases k1 : nb T t a = 100
      · obtain ⟨v, τ2, e2, n2, b2⟩ := m111 (s2.tx h1) q7 (by omega)
        rw [if_pos k1, on, X112_64, zw_nat1 (by omega), q8, if_neg k2, if_neg k3, if_pos k1, e2, zbI_some]
        exact step τ2 v (kP T t (a + 1)) n2 (by rw [k1]; exact b2) (by unfold bdP; rw [if_neg k2, if_neg k3, if_pos k1]) (fun f s u b q => by have := kP_pos q; omega)
      · rw [if_neg k1]
        by_cases k4 : nb T t a = 112
        · have e7 := s107 (s2.tx h1) q7 (by omega) (lo := 0) (hi := 3) (by omega)
          have bp : bdP T t (nb T t a) (a + 1) = pP T t (a + 1) := by unfold bdP; rw [if_neg k2, if_neg k3, if_neg k1, if_pos k4]
          rw [if_pos k4, X112_49, if_neg i10, g7, X112_64, zw_nat1 (by omega), q8, if_neg k2, if_neg k3, if_neg k1, if_pos k4, e7]
          unfold pP at bp
          rcases hd : dgP T t 0 3 (a + 1) with ⟨f, b⟩ | e
          · have a1 := dgP_pos hd
            rw [hd] at bp
            dsimp only [pb] at bp ⊢
            rw [zbI_some, zup_at, if_neg (by omega), X112_151]
            refine step _ 1 (.inl (f, 0, 0, b)) (((Ms.rf _).up ⟨by decide, by decide, by decide, by decide⟩).up ⟨by decide, by decide, by decide, by decide⟩) ⟨rfl, by rw [zup_of (by omega), zup_at], zup_at _ _ _ _, fun q => absurd k4 q, fun q => by omega⟩ bp (fun f' s u b' q => by cases q; omega)
          · rw [hd] at bp
            dsimp only [pb] at bp ⊢
            rw [zbI_some, zup_at, if_pos rfl, X112_151]
            refine step _ 0 (.inr e) (((Ms.rf _).up ⟨by decide, by decide, by decide, by decide⟩).up ⟨by decide, by decide, by decide, by decide⟩) ⟨rfl, by rw [zup_of (by omega), zup_at]⟩ bp (fun f' s u b' q => by cases q)
        · have z0 : zup τ1 9 7 ((a : Int) + 0) = τ1 := by
            funext k i
            unfold zup
            by_cases c : k = 9 ∧ i = 7
            · rw [if_pos c, c.1, c.2, g7, Int.add_zero]
            · rw [if_neg c]
          rw [if_neg k4, X112_49, if_pos rfl, g7, X112_64, zw_id (x := (a : Int) + 0) (by omega) (by omega), z0, g8, if_neg k2, if_neg k3, if_neg k1, if_neg k4]
          exact fin τ1 0 (.inr a) (Ms.rf _) ⟨rfl, g7⟩ (by unfold bdP; rw [if_neg k2, if_neg k3, if_neg k1, if_neg k4]; rfl) (fun f' s u b' q => by cases q)
