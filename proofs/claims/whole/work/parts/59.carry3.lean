/-! ===== 59: carryOut ===== -/
theorem RC.eight {σ σ' : zSt} {S : Row} {c : Nat} {H : Nat → Row} {t : Nat} {T : Row} {B : Int} (h : RC σ S c H t T) (a : RA S c H t T B) (e : ∀ k, k ≠ 8 → σ' k = σ k) (e1 : σ' 8 1 = σ 8 1) : RC σ' S c H t T := by
  obtain ⟨h1, ⟨n, hn, h2, h3⟩, h4, h5, h6⟩ := h
  exact ⟨h1.seq a.1.1 (SEq.same (fun k hk => e k (by omega))), ⟨n, hn, by rw [e 7 (by omega)]; exact h2, fun i hi => (h3 i hi).seq (a.2.2.1 i hi).1 (SEq.same (fun k hk => e k (by omega)))⟩, by rw [e 7 (by omega)]; exact h4, e1.trans h5, fun i hi => by rw [e 64 (by omega)]; exact h6 i hi⟩
theorem RM.mr {τ τ' : zSt} {S : Row} {c : Nat} {H : Nat → Row} {t : Nat} {T : Row} (h : RM τ S c H t T) (m : Mr τ τ') : RM τ' S c H t T := by
  obtain ⟨h1, h2, h3, h4, h5⟩ := h
  obtain ⟨m1, m2, m3, _⟩ := m
  exact ⟨by rw [m1 65 (by decide)]; exact h1, m3.trans h2, fun i hi => by rw [m1 67 (by decide)]; exact h3 i hi, m2.trans h4, fun i hi => by rw [m1 68 (by decide)]; exact h5 i hi⟩
/-- the orders from a on, carried out one after another -/
noncomputable def runP (T : Row) (t : Nat) : Nat → Nat → Row → Int → Row × Int
  | 0, _, S, v => (S, v)
  | n + 1, a, S, v => if a < t then (match orP T t a with
    | .inl (k, f, s, u, d) => (match exP S k f s u with
      | some S' => runP T t n d S' (v + 1)
      | none => (S, v))
    | .inr _ => (S, v)) else (S, v)
theorem c24_40 {c : Nat} {H : Nat → Row} {t : Nat} {T : Row} {B : Int} (hB : 1150 ≤ B) : ∀ (n l a : Nat) (v : Int) (σ : zSt) (S : Row), RC σ S c H t T → RA S c H t T B → l + n = 100 → t ≤ a + n → a ≤ t → σ 8 2 = (a : Int) → σ 8 3 = -1 → 0 ≤ v → v + n ≤ 200 → ∃ σ', zE 24 40 [some (zR 0), some (zI (-1)), some (zI v), some (zI (l : Int))] [] σ = zRI (runP T t n a S v).2 σ' ∧ RC σ' (runP T t n a S v).1 c H t T ∧ RA (runP T t n a S v).1 c H t T B ∧ FC σ σ' := by
  intro n
  induction n with
  | zero =>
    intro l a v σ S h A hl hn ha h2 h3 hv hv2
    rw [X24_40, if_neg (by omega)]
    exact ⟨σ, rfl, h, A, FC.rf σ⟩
  | succ n ih =>
    intro l a v σ S h A hl hn ha h2 h3 hv hv2
    have hx : TxC σ t T := ⟨A.2.2.2.1, h.2.2.2.1, h.2.2.2.2, A.2.2.2.2⟩
    rw [X24_40, if_pos (by omega)]
    unfold runP
    by_cases c0 : a < t
    · obtain ⟨w, σ1, e1, f1, g1, o1⟩ := c121 hx h2 h3 c0
      have h' : RC σ1 S c H t T := h.eight A f1 (g1.trans h.2.2.2.1.symm)
      have fc1 : FC σ σ1 := ⟨f1 9 (by decide), fun k hk => f1 k (by omega)⟩
      rw [e1, zbI_some, if_pos c0]
      rcases ho : orP T t a with ⟨k, f, s, u, d⟩ | e
      · rw [ho] at o1
        obtain ⟨w1, w2, w3, w4, w5, w6, w7⟩ := o1
        have hp := orP_pos ho
        have hr := orP_rng ho
        have q := c32 h' A hr w4 w5 w6 w7
        rw [w1, if_neg i10]
        rcases hx2 : exP S k f s u with _ | S'
        · rw [hx2] at q
          have q' : zE 32 0 [some (zR 0), none, none, none] [] σ1 = zRI 0 σ1 := q
          rw [q', zbI_some, if_pos rfl]
          simp only [hx2]
          exact ⟨σ1, rfl, h', A, fc1⟩
        · rw [hx2] at q
          obtain ⟨σ2, e2, r2, fr2, n8⟩ := q
          rw [e2, zbI_some, if_neg i10, zw_id (x := v + 1) (by omega) (by omega), zw_nat1 (by omega)]
          obtain ⟨σ3, e3, r3, a3, f3⟩ := ih (l + 1) d (v + 1) σ2 S' r2 ⟨exP_ok A.1 hB hr hx2, A.2⟩ (by omega) (by omega) hp.2.2.1 (by rw [n8]; exact w2) (by rw [n8]; exact w3) (by omega) (by omega)
          simp only [hx2]
          exact ⟨σ3, e3, r3, a3, (fc1.trans fr2).trans f3⟩
      · rw [ho] at o1
        obtain ⟨w1, w2⟩ := o1
        rw [w1, if_pos rfl]
        exact ⟨σ1, rfl, h', A, fc1⟩
    · rw [if_neg c0, c121_end hx (by rw [h2]; omega), zbI_some, if_pos rfl]
      exact ⟨σ, rfl, h, A, FC.rf σ⟩
theorem m114_60 {c : Nat} {H : Nat → Row} {t : Nat} {T : Row} {B : Int} (hB : 1150 ≤ B) : ∀ (n a : Nat) (v : Int) (τ : zSt) (S : Row), RM τ S c H t T → RA S c H t T B → t ≤ a + n → a ≤ t → τ 9 7 = (a : Int) → frP T t n a = -1 → 0 ≤ v → v + n ≤ 200 → ∃ τ', zE 114 60 [some (zR 9), some (zI 1), some (zI v), some (zI 1)] [] τ = zRI (runP T t n a S v).2 τ' ∧ RM τ' (runP T t n a S v).1 c H t T ∧ FM τ τ' ∧ τ' 9 0 = τ 9 0 := by
  intro n
  induction n with
  | zero =>
    intro a v τ S g A hn ha h7 hf hv hv2
    rw [X114_60, if_neg i10, if_neg (by rw [h7, g.2.2.2.1]; omega)]
    exact ⟨τ, rfl, g, FM.rf τ, rfl⟩
  | succ n ih =>
    intro a v τ S g A hn ha h7 hf hv hv2
    have hx : TxM τ t T := ⟨A.2.2.2.1, g.2.2.2.1, g.2.2.2.2, A.2.2.2.2⟩
    unfold frP at hf
    unfold runP
    by_cases c0 : a < t
    · obtain ⟨w, τ1, e1, m1, o1⟩ := m112 hx h7 c0
      have g' : RM τ1 S c H t T := g.mr m1
      have fm1 : FM τ τ1 := fun k hk _ => m1.1 k hk
      rw [if_pos c0] at hf ⊢
      rw [X114_60, if_neg i10, if_pos (by rw [h7, g.2.2.2.1]; omega), e1, zbI_some]
      rcases ho : orP T t a with ⟨k, f, s, u, d⟩ | e
      · rw [ho] at o1 hf
        obtain ⟨w1, w2, w3, w4, w5, w6⟩ := o1
        have hp := orP_pos ho
        have hr := orP_rng ho
        have q := m113 g' A hr w3 w4 w5 w6
        rcases hx2 : exP S k f s u with _ | S'
        · rw [hx2] at q
          have q' : zE 113 0 [some (zR 9), none] [] τ1 = zRI 0 τ1 := q
          rw [q', zbI_some, if_pos rfl, X114_60, if_pos rfl, zw_id (x := v + 0) (by omega) (by omega), Int.add_zero]
          simp only [hx2]
          exact ⟨τ1, rfl, g', fm1, m1.2.2.2⟩
        · rw [hx2] at q
          have q' : zE 113 0 [some (zR 9), none] [] τ1 = zRI 1 (zset τ1 65 S') := q
          rw [q', zbI_some, if_neg i10, zw_id (x := v + 1) (by omega) (by omega)]
          obtain ⟨τ3, e3, r3, f3, n3⟩ := ih d (v + 1) (zset τ1 65 S') S' g'.main ⟨exP_ok A.1 hB hr hx2, A.2⟩ (by omega) hp.2.2.1 (by rw [zset_ne _ _ (by decide)]; exact w2) hf (by omega) (by omega)
          simp only [hx2]
          refine ⟨τ3, e3, r3, (fm1.trans (FM.zset (by decide))).trans f3, ?_⟩
          rw [n3, zset_ne _ _ (by decide)]
          exact m1.2.2.2
      · rw [ho] at hf
        have hf' : (e : Int) = -1 := hf
        omega
    · rw [if_neg c0, X114_60, if_neg i10, if_neg (by rw [h7, g.2.2.2.1]; omega)]
      exact ⟨τ, rfl, g, FM.rf τ, rfl⟩
theorem f_carryOut {σ τ : zSt} {S : Row} {c : Nat} {H : Nat → Row} {t : Nat} {T : Row} {B : Int} (hB : 1150 ≤ B) (h : RC σ S c H t T) (g : RM τ S c H t T) (a : RA S c H t T B) : Both [] (zE 24 0 [some (zR 0), none, none, none] [] σ) (zE 114 0 [some (zR 9), none, none, none] [] τ) σ τ S c H t T B := by
  have ht := a.2.2.2.1
  have h0 : RC (zup (zup σ 8 2 0) 8 3 (-1)) S c H t T := h.eight a (fun k hk => by rw [zup_off hk, zup_off hk]) (by rw [zup_of (by omega), zup_of (by omega)])
  have f0 : FC σ (zup (zup σ 8 2 0) 8 3 (-1)) := (FC.zup (by decide)).trans (FC.zup (by decide))
  have g0 : RM (zup (zup τ 9 0 0) 9 7 0) S c H t T := (g.nine (by decide)).nine (by decide)
  have m0 : FM τ (zup (zup τ 9 0 0) 9 7 0) := FM.nine.trans FM.nine
  have n0 : (zup (zup τ 9 0 0) 9 7 0) 9 0 = 0 := by rw [zup_of (by omega), zup_at]
  have n7 : (zup (zup τ 9 0 0) 9 7 0) 9 7 = ((0 : Nat) : Int) := zup_at _ _ _ _
  have n2 : (zup (zup σ 8 2 0) 8 3 (-1)) 8 2 = ((0 : Nat) : Int) := by rw [zup_of (by omega), zup_at]; rfl
  have n3 : (zup (zup σ 8 2 0) 8 3 (-1)) 8 3 = -1 := zup_at _ _ _ _
  have x24 : zE 24 0 [some (zR 0), none, none, none] [] σ = _ := X24_0 σ
  rw [X120_0, X119_0] at x24
  have x24' : zE 24 0 [some (zR 0), none, none, none] [] σ = zbI (zE 120 6 [some (zR 8), some (zI 0)] [] (zup (zup σ 8 2 0) 8 3 (-1))) (fun r1 σ1 => (if r1 = (-1) then (zbV (zE 117 0 [some (zR 7), some (zR 2)] [] σ1) fun σ2 => (zbV (zE 119 0 [some (zR 8)] [] σ2) fun σ3 => (zE 24 40 [some (zR 0), some (zI r1), some (zI 0), some (zI 0)] [] σ3))) else (zRI (zw ((-10) - r1)) σ1))) := x24
  rw [x24', X114_0]
  obtain ⟨σ1, e1, f1, g1⟩ := c120 (n := 100) (l := 0) (a := 0) (σ := zup (zup σ 8 2 0) 8 3 (-1)) ⟨ht, h0.2.2.2.1, h0.2.2.2.2, a.2.2.2.2⟩ (by omega) (by omega) (by omega) n2 n3
  obtain ⟨v, τ1, e2, m2, o2⟩ := m114 100 0 (zup (zup τ 9 0 0) 9 7 0) ⟨ht, g0.2.2.2.1, g0.2.2.2.2, a.2.2.2.2⟩ (by omega) (by omega) n7
  have e1' : zE 120 6 [some (zR 8), some (zI 0)] [] (zup (zup σ 8 2 0) 8 3 (-1)) = _ := e1
  have h1 : RC σ1 S c H t T := h0.eight a f1 g1
  have fc1 : FC σ σ1 := f0.trans ⟨f1 9 (by decide), fun k hk => f1 k (by omega)⟩
  have gm1 : RM τ1 S c H t T := g0.mr m2
  have fm1 : FM τ τ1 := m0.trans (fun k hk _ => m2.1 k hk)
  have nm1 : τ1 9 0 = 0 := m2.2.2.2.trans n0
  rw [e1', zbI_some, e2, X114_35]
  rcases o2 with ⟨hf, hv⟩ | ⟨e, hf, hv, h7⟩
  · rw [hf, if_pos rfl, hv, if_neg i10]
    obtain ⟨σ2, e3, r3, fr3⟩ := s117 h1 a
    obtain ⟨τ2, e4, r4, n4, fr4⟩ := m_save gm1 a.2.1
    have ra : RA S (pshC c) (pshH c H S) t T B := RA.push a (Int.le_refl _) a.1
    rw [e3, zbV_some, X119_0, e4, zbV_some]
    have h2 : RC (zup (zup σ2 8 2 0) 8 3 (-1)) S (pshC c) (pshH c H S) t T := r3.eight ra (fun k hk => by rw [zup_off hk, zup_off hk]) (by rw [zup_of (by omega), zup_of (by omega)])
    obtain ⟨σ3, e5, r5, a5, f5⟩ := c24_40 hB 100 0 0 0 (zup (zup σ2 8 2 0) 8 3 (-1)) S h2 ra (by omega) (by omega) (by omega) (by rw [zup_of (by omega), zup_at]; rfl) (zup_at _ _ _ _) (by omega) (by omega)
    obtain ⟨τ3, e6, r6, f6, n6⟩ := m114_60 hB 100 0 0 (zup τ2 9 7 0) S (r4.nine (by decide)) ra (by omega) (by omega) (zup_at _ _ _ _) hf (by omega) (by omega)
    have e5' : zE 24 40 [some (zR 0), some (zI (-1)), some (zI 0), some (zI 0)] [] (zup (zup σ2 8 2 0) 8 3 (-1)) = _ := e5
    rw [e5', zbV_some, e6]
    refine Or.inl ⟨_, σ3, τ3, _, _, _, t, T, rfl, rfl, ?_, r5, r6, a5, ?_, ?_⟩
    · rw [n6, zup_of (by omega), n4]; exact nm1
    · exact (fc1.trans ⟨fr3 9 (by decide) (by decide), fun k hk => fr3 k (by omega) (by omega)⟩).trans (((FC.zup (by decide)).trans (FC.zup (by decide))).trans f5)
    · exact ((fm1.trans fr4).trans FM.nine).trans f6
  · rw [hf, if_neg (show ¬ ((e : Nat) : Int) = -1 by omega), hv, if_pos rfl, h7]
    exact Or.inl ⟨_, σ1, τ1, S, c, H, t, T, rfl, rfl, nm1, h1, gm1, a, fc1, fm1⟩
