/-! ===== 52: orders, read on both sides ===== -/
def pb {β : Type} (r : PR) (f : Int → Nat → β ⊕ Nat) : β ⊕ Nat := match r with
  | .inl (v, b) => f v b
  | .inr e => .inr e
/-- first, second, third, next; or where it fails -/
abbrev OR : Type := (Int × Int × Int × Nat) ⊕ Nat
def jP (T : Row) (t a : Nat) : OR := pb (dgP T t 1 9 a) fun f b => pb (sgP T t 44 b) fun _ c => pb (nuP T t 3 0 999 c) fun s d => .inl (f, s, 0, d)
def oP (T : Row) (t a : Nat) : OR := pb (dgP T t 0 5 a) fun f b => pb (dgP T t 0 4 b) fun s c => pb (sgP T t 44 c) fun _ d => pb (nuP T t 2 1 20 d) fun u e => .inl (f, s, u, e)
def kP (T : Row) (t a : Nat) : OR := pb (dgP T t 0 4 a) fun f b => pb (sgP T t 44 b) fun _ c => pb (nuP T t 3 0 500 c) fun s d => pb (sgP T t 44 d) fun _ e => pb (nuP T t 2 1 50 e) fun u g => .inl (f, s, u, g)
def pP (T : Row) (t a : Nat) : OR := pb (dgP T t 0 3 a) fun f b => .inl (f, 0, 0, b)
theorem dgP_pos {T : Row} {t a b : Nat} {lo hi v : Int} (h : dgP T t lo hi a = .inl (v, b)) : b = a + 1 ∧ lo ≤ v ∧ v ≤ hi := by
  unfold dgP at h
  split at h
  · rename_i q
    cases h
    exact ⟨rfl, q.1, q.2⟩
  · cases h
theorem sgP_pos {T : Row} {t a b : Nat} {c v : Int} (h : sgP T t c a = .inl (v, b)) : b = a + 1 ∧ nb T t a = c := by
  unfold sgP at h
  split at h
  · rename_i q
    cases h
    exact ⟨rfl, q⟩
  · cases h
theorem nuP_pos {T : Row} {t n a b : Nat} {lo hi v : Int} (h : nuP T t n lo hi a = .inl (v, b)) : a < b ∧ b ≤ a + n ∧ lo ≤ v ∧ v ≤ hi := by
  have q := nuL_le (T := T) (t := t) n a 0
  unfold nuP at h
  split at h
  · cases h
  · rename_i q1
    split at h
    · cases h
    · split at h
      · rename_i q3
        have h' := Sum.inl.inj h
        have h1 : (nuL T t n a 0).1 = v := by rw [h']
        have h2 : (nuL T t n a 0).2 = b := by rw [h']
        omega
      · cases h
/-- the class's reader after a step: on at b, or stopped at e; all else as it was but the fields in L -/
def Cs (σ σ' : zSt) : Prop := (∀ k, k ≠ 8 → σ' k = σ k) ∧ σ' 8 1 = σ 8 1 ∧ σ' 8 4 = σ 8 4
theorem Cs.rf (σ : zSt) : Cs σ σ := ⟨fun _ _ => rfl, rfl, rfl⟩
theorem Cs.up {σ σ' : zSt} (h : Cs σ σ') {i : Nat} {v : Int} (hi : i ≠ 1 ∧ i ≠ 4) : Cs σ (zup σ' 8 i v) := ⟨fun k hk => by rw [zup_off hk]; exact h.1 k hk, by rw [zup_of (by omega)]; exact h.2.1, by rw [zup_of (by omega)]; exact h.2.2⟩
theorem Cs.tx {σ σ' : zSt} (h : Cs σ σ') {t : Nat} {T : Row} (x : TxC σ t T) : TxC σ' t T := ⟨x.1, h.2.1.trans x.2.1, fun i hi => by rw [h.1 64 (by decide)]; exact x.2.2.1 i hi, x.2.2.2⟩
theorem c122 {σ : zSt} {t : Nat} {T : Row} (h : TxC σ t T) {a : Nat} (ha : σ 8 2 = (a : Int)) (he : σ 8 3 = -1) (hat : a ≤ 150) : ∃ σ', zE 122 0 [some (zR 8)] [] σ = zRV σ' ∧ Cs σ σ' ∧ match jP T t a with
    | .inl (f, s, _, b) => σ' 8 2 = (b : Int) ∧ σ' 8 3 = -1 ∧ σ' 8 5 = f ∧ σ' 8 6 = s
    | .inr e => σ' 8 3 = (e : Int) := by
  rw [X122_0, s128 h ha he (by omega), zbI_some]
  unfold jP
  rcases hd : dgP T t 1 9 a with ⟨f, b⟩ | e
  · obtain ⟨hb, _, _⟩ := dgP_pos hd
    have c1 : Cs σ (zup (zup σ 8 2 (b : Int)) 8 5 f) := ((Cs.rf σ).up ⟨by decide, by decide⟩).up ⟨by decide, by decide⟩
    have p1 : (zup (zup σ 8 2 (b : Int)) 8 5 f) 8 2 = (b : Int) := by rw [zup_of (by omega), zup_at]
    have p2 : (zup (zup σ 8 2 (b : Int)) 8 5 f) 8 3 = -1 := by rw [zup_of (by omega), zup_of (by omega)]; exact he
    have e1 := s127 (c1.tx h) p1 p2 (by omega) 44
    dsimp only [goC, pb]
    rw [e1, zbV_some]
    rcases hs : sgP T t 44 b with ⟨w, d⟩ | e
    · obtain ⟨hd2, _⟩ := sgP_pos hs
      dsimp only [goC]
      have c2 : Cs σ (zup (zup (zup σ 8 2 (b : Int)) 8 5 f) 8 2 (d : Int)) := c1.up ⟨by decide, by decide⟩
      obtain ⟨v, σ', e2, q1, q2, q3⟩ := s129 (c2.tx h) (zup_at _ _ _ _) (by rw [zup_of (by omega)]; exact p2) (by omega) (n := 3) (by omega) 0 999
      have e2' : zE 129 0 [some (zR 8), some (zI 3), some (zI 0), some (zI 999), none, none, none] [] (zup (zup (zup σ 8 2 (b : Int)) 8 5 f) 8 2 (d : Int)) = zRI v σ' := e2
      rw [e2', zbI_some]
      have c3 : Cs σ σ' := ⟨fun k hk => (q1 k hk).trans (c2.1 k hk), (q2 1 (by decide) (by decide)).trans c2.2.1, (q2 4 (by decide) (by decide)).trans c2.2.2⟩
      have p5 : σ' 8 5 = f := by rw [q2 5 (by decide) (by decide), zup_of (by omega), zup_at]
      refine ⟨_, rfl, c3.up ⟨by decide, by decide⟩, ?_⟩
      rcases hn : nuP T t 3 0 999 d with ⟨s, g⟩ | e
      · rw [hn] at q3
        obtain ⟨r1, r2, r3⟩ := q3
        dsimp only
        exact ⟨by rw [zup_of (by omega)]; exact r2, by rw [zup_of (by omega)]; exact r3, by rw [zup_of (by omega)]; exact p5, by rw [zup_at]; exact r1⟩
      · rw [hn] at q3
        dsimp only
        rw [zup_of (by omega)]; exact q3
    · dsimp only [goC]
      have c2 : Cs σ (zup (zup (zup σ 8 2 (b : Int)) 8 5 f) 8 3 (e : Int)) := c1.up ⟨by decide, by decide⟩
      rw [s129e (by rw [zup_at]; omega), zbI_some]
      exact ⟨_, rfl, c2.up ⟨by decide, by decide⟩, by rw [zup_of (by omega), zup_at]⟩
  · dsimp only [goC, pb]
    have c1 : Cs σ (zup (zup σ 8 3 (e : Int)) 8 5 0) := ((Cs.rf σ).up ⟨by decide, by decide⟩).up ⟨by decide, by decide⟩
    have p2 : (zup (zup σ 8 3 (e : Int)) 8 5 0) 8 3 = (e : Int) := by rw [zup_of (by omega), zup_at]
    rw [s127e (by rw [p2]; omega), zbV_some, s129e (by rw [p2]; omega), zbI_some]
    exact ⟨_, rfl, c1.up ⟨by decide, by decide⟩, by rw [zup_of (by omega)]; exact p2⟩
theorem c123 {σ : zSt} {t : Nat} {T : Row} (h : TxC σ t T) {a : Nat} (ha : σ 8 2 = (a : Int)) (he : σ 8 3 = -1) (hat : a ≤ 150) : ∃ σ', zE 123 0 [some (zR 8)] [] σ = zRV σ' ∧ Cs σ σ' ∧ match oP T t a with
    | .inl (f, s, u, b) => σ' 8 2 = (b : Int) ∧ σ' 8 3 = -1 ∧ σ' 8 5 = f ∧ σ' 8 6 = s ∧ σ' 8 7 = u
    | .inr e => σ' 8 3 = (e : Int) := by
  rw [X123_0, s128 h ha he (by omega), zbI_some]
  unfold oP
  rcases hd : dgP T t 0 5 a with ⟨f, b⟩ | e
  · obtain ⟨hb, _, _⟩ := dgP_pos hd
    dsimp only [goC, pb]
    have c1 : Cs σ (zup (zup σ 8 2 (b : Int)) 8 5 f) := ((Cs.rf σ).up ⟨by decide, by decide⟩).up ⟨by decide, by decide⟩
    have p1 : (zup (zup σ 8 2 (b : Int)) 8 5 f) 8 2 = (b : Int) := by rw [zup_of (by omega), zup_at]
    have p2 : (zup (zup σ 8 2 (b : Int)) 8 5 f) 8 3 = -1 := by rw [zup_of (by omega), zup_of (by omega)]; exact he
    rw [s128 (c1.tx h) p1 p2 (by omega), zbI_some]
    rcases hd2 : dgP T t 0 4 b with ⟨s, c⟩ | e
    · obtain ⟨hc, _, _⟩ := dgP_pos hd2
      dsimp only [goC]
      have c2 : Cs σ (zup (zup (zup (zup σ 8 2 (b : Int)) 8 5 f) 8 2 (c : Int)) 8 6 s) := (c1.up ⟨by decide, by decide⟩).up ⟨by decide, by decide⟩
      have p3 : (zup (zup (zup (zup σ 8 2 (b : Int)) 8 5 f) 8 2 (c : Int)) 8 6 s) 8 2 = (c : Int) := by rw [zup_of (by omega), zup_at]
      have p4 : (zup (zup (zup (zup σ 8 2 (b : Int)) 8 5 f) 8 2 (c : Int)) 8 6 s) 8 3 = -1 := by rw [zup_of (by omega), zup_of (by omega)]; exact p2
      have p5 : (zup (zup (zup (zup σ 8 2 (b : Int)) 8 5 f) 8 2 (c : Int)) 8 6 s) 8 5 = f := by rw [zup_of (by omega), zup_of (by omega), zup_at]
      have p6 : (zup (zup (zup (zup σ 8 2 (b : Int)) 8 5 f) 8 2 (c : Int)) 8 6 s) 8 6 = s := zup_at _ _ _ _
      generalize hg : zup (zup (zup (zup σ 8 2 (b : Int)) 8 5 f) 8 2 (c : Int)) 8 6 s = σ2 at *
      rw [s127 (c2.tx h) p3 p4 (by omega) 44, zbV_some]
      rcases hs : sgP T t 44 c with ⟨w, d⟩ | e
      · obtain ⟨hd3, _⟩ := sgP_pos hs
        dsimp only [goC]
        have c3 : Cs σ (zup σ2 8 2 (d : Int)) := c2.up ⟨by decide, by decide⟩
        obtain ⟨v, σ', e2, q1, q2, q3⟩ := s129 (c3.tx h) (zup_at _ _ _ _) (by rw [zup_of (by omega)]; exact p4) (by omega) (n := 2) (by omega) 1 20
        have e2' : zE 129 0 [some (zR 8), some (zI 2), some (zI 1), some (zI 20), none, none, none] [] (zup σ2 8 2 (d : Int)) = zRI v σ' := e2
        rw [e2', zbI_some]
        have c4 : Cs σ σ' := ⟨fun k hk => (q1 k hk).trans (c3.1 k hk), (q2 1 (by decide) (by decide)).trans c3.2.1, (q2 4 (by decide) (by decide)).trans c3.2.2⟩
        have r5 : σ' 8 5 = f := by rw [q2 5 (by decide) (by decide), zup_of (by omega)]; exact p5
        have r6 : σ' 8 6 = s := by rw [q2 6 (by decide) (by decide), zup_of (by omega)]; exact p6
        refine ⟨_, rfl, c4.up ⟨by decide, by decide⟩, ?_⟩
        rcases hn : nuP T t 2 1 20 d with ⟨u, g⟩ | e
        · rw [hn] at q3
          obtain ⟨r1, r2, r3⟩ := q3
          dsimp only
          exact ⟨by rw [zup_of (by omega)]; exact r2, by rw [zup_of (by omega)]; exact r3, by rw [zup_of (by omega)]; exact r5, by rw [zup_of (by omega)]; exact r6, by rw [zup_at]; exact r1⟩
        · rw [hn] at q3
          dsimp only
          rw [zup_of (by omega)]; exact q3
      · dsimp only [goC]
        have c3 : Cs σ (zup σ2 8 3 (e : Int)) := c2.up ⟨by decide, by decide⟩
        rw [s129e (by rw [zup_at]; omega), zbI_some]
        exact ⟨_, rfl, c3.up ⟨by decide, by decide⟩, by rw [zup_of (by omega), zup_at]⟩
    · dsimp only [goC]
      have c2 : Cs σ (zup (zup (zup (zup σ 8 2 (b : Int)) 8 5 f) 8 3 (e : Int)) 8 6 0) := (c1.up ⟨by decide, by decide⟩).up ⟨by decide, by decide⟩
      have p3 : (zup (zup (zup (zup σ 8 2 (b : Int)) 8 5 f) 8 3 (e : Int)) 8 6 0) 8 3 = (e : Int) := by rw [zup_of (by omega), zup_at]
      rw [s127e (by rw [p3]; omega), zbV_some, s129e (by rw [p3]; omega), zbI_some]
      exact ⟨_, rfl, c2.up ⟨by decide, by decide⟩, by rw [zup_of (by omega)]; exact p3⟩
  · dsimp only [goC, pb]
    have c1 : Cs σ (zup (zup σ 8 3 (e : Int)) 8 5 0) := ((Cs.rf σ).up ⟨by decide, by decide⟩).up ⟨by decide, by decide⟩
    have p2 : (zup (zup σ 8 3 (e : Int)) 8 5 0) 8 3 = (e : Int) := by rw [zup_of (by omega), zup_at]
    rw [s128e (by rw [p2]; omega), zbI_some]
    have c2 : Cs σ (zup (zup (zup σ 8 3 (e : Int)) 8 5 0) 8 6 0) := c1.up ⟨by decide, by decide⟩
    have p3 : (zup (zup (zup σ 8 3 (e : Int)) 8 5 0) 8 6 0) 8 3 = (e : Int) := by rw [zup_of (by omega)]; exact p2
    rw [s127e (by rw [p3]; omega), zbV_some, s129e (by rw [p3]; omega), zbI_some]
    exact ⟨_, rfl, c2.up ⟨by decide, by decide⟩, by rw [zup_of (by omega)]; exact p3⟩
theorem c124 {σ : zSt} {t : Nat} {T : Row} (h : TxC σ t T) {a : Nat} (ha : σ 8 2 = (a : Int)) (he : σ 8 3 = -1) (hat : a ≤ 150) : ∃ σ', zE 124 0 [some (zR 8)] [] σ = zRV σ' ∧ Cs σ σ' ∧ match kP T t a with
    | .inl (f, s, u, b) => σ' 8 2 = (b : Int) ∧ σ' 8 3 = -1 ∧ σ' 8 5 = f ∧ σ' 8 6 = s ∧ σ' 8 7 = u
    | .inr e => σ' 8 3 = (e : Int) := by
  rw [X124_0, s128 h ha he (by omega), zbI_some]
  unfold kP
  -- after an error nothing more is read
  have dead : ∀ (σ1 : zSt) (e : Nat), Cs σ σ1 → σ1 8 3 = (e : Int) → ∃ σ', (zbV (zE 127 0 [some (zR 8), some (zI 44)] [] σ1) fun σ4 => zbI (zE 129 0 [some (zR 8), some (zI 2), some (zI 1), some (zI 50), none, none, none] [] σ4) fun r5 σ5 => some (.inl (none, zup σ5 8 7 r5))) = zRV σ' ∧ Cs σ σ' ∧ σ' 8 3 = (e : Int) := by
    intro σ1 e c1 p
    rw [s127e (by rw [p]; omega), zbV_some, s129e (by rw [p]; omega), zbI_some]
    exact ⟨_, rfl, c1.up ⟨by decide, by decide⟩, by rw [zup_of (by omega)]; exact p⟩
  rcases hd : dgP T t 0 4 a with ⟨f, b⟩ | e
  · obtain ⟨hb, _, _⟩ := dgP_pos hd
    dsimp only [goC, pb]
    have c1 : Cs σ (zup (zup σ 8 2 (b : Int)) 8 5 f) := ((Cs.rf σ).up ⟨by decide, by decide⟩).up ⟨by decide, by decide⟩
    have p1 : (zup (zup σ 8 2 (b : Int)) 8 5 f) 8 2 = (b : Int) := by rw [zup_of (by omega), zup_at]
    have p2 : (zup (zup σ 8 2 (b : Int)) 8 5 f) 8 3 = -1 := by rw [zup_of (by omega), zup_of (by omega)]; exact he
    have p5 : (zup (zup σ 8 2 (b : Int)) 8 5 f) 8 5 = f := zup_at _ _ _ _
    generalize hg : zup (zup σ 8 2 (b : Int)) 8 5 f = σ1 at *
    rw [s127 (c1.tx h) p1 p2 (by omega) 44, zbV_some]
    rcases hs : sgP T t 44 b with ⟨w, c⟩ | e
    · obtain ⟨hc, _⟩ := sgP_pos hs
      dsimp only [goC]
      have c2 : Cs σ (zup σ1 8 2 (c : Int)) := c1.up ⟨by decide, by decide⟩
      obtain ⟨v, σ2, e2, q1, q2, q3⟩ := s129 (c2.tx h) (zup_at _ _ _ _) (by rw [zup_of (by omega)]; exact p2) (by omega) (n := 3) (by omega) 0 500
      have e2' : zE 129 0 [some (zR 8), some (zI 3), some (zI 0), some (zI 500), none, none, none] [] (zup σ1 8 2 (c : Int)) = zRI v σ2 := e2
      rw [e2', zbI_some]
      have c3 : Cs σ σ2 := ⟨fun k hk => (q1 k hk).trans (c2.1 k hk), (q2 1 (by decide) (by decide)).trans c2.2.1, (q2 4 (by decide) (by decide)).trans c2.2.2⟩
      have r5 : σ2 8 5 = f := by rw [q2 5 (by decide) (by decide), zup_of (by omega)]; exact p5
      have c4 : Cs σ (zup σ2 8 6 v) := c3.up ⟨by decide, by decide⟩
      rcases hn : nuP T t 3 0 500 c with ⟨s, d⟩ | e
      · rw [hn] at q3
        obtain ⟨x1, x2, x3⟩ := q3
        obtain ⟨y1, y2, _, _⟩ := nuP_pos hn
        dsimp only
        have z2 : (zup σ2 8 6 v) 8 2 = (d : Int) := by rw [zup_of (by omega)]; exact x2
        have z3 : (zup σ2 8 6 v) 8 3 = -1 := by rw [zup_of (by omega)]; exact x3
        have z5 : (zup σ2 8 6 v) 8 5 = f := by rw [zup_of (by omega)]; exact r5
        have z6 : (zup σ2 8 6 v) 8 6 = s := by rw [zup_at]; exact x1
        generalize hg2 : zup σ2 8 6 v = σ3 at *
        rcases hs2 : sgP T t 44 d with ⟨w2, g⟩ | e
        · obtain ⟨hg3, _⟩ := sgP_pos hs2
          rw [s127 (c4.tx h) z2 z3 (by omega) 44, zbV_some, hs2]
          dsimp only [goC]
          have c5 : Cs σ (zup σ3 8 2 (g : Int)) := c4.up ⟨by decide, by decide⟩
          obtain ⟨v2, σ4, e4, k1, k2, k3⟩ := s129 (c5.tx h) (zup_at _ _ _ _) (by rw [zup_of (by omega)]; exact z3) (by omega) (n := 2) (by omega) 1 50
          have e4' : zE 129 0 [some (zR 8), some (zI 2), some (zI 1), some (zI 50), none, none, none] [] (zup σ3 8 2 (g : Int)) = zRI v2 σ4 := e4
          rw [e4', zbI_some]
          have c6 : Cs σ σ4 := ⟨fun k hk => (k1 k hk).trans (c5.1 k hk), (k2 1 (by decide) (by decide)).trans c5.2.1, (k2 4 (by decide) (by decide)).trans c5.2.2⟩
          have w5 : σ4 8 5 = f := by rw [k2 5 (by decide) (by decide), zup_of (by omega)]; exact z5
          have w6 : σ4 8 6 = s := by rw [k2 6 (by decide) (by decide), zup_of (by omega)]; exact z6
          refine ⟨_, rfl, c6.up ⟨by decide, by decide⟩, ?_⟩
          rcases hn2 : nuP T t 2 1 50 g with ⟨u, m⟩ | e
          · rw [hn2] at k3
            obtain ⟨n1, n2, n3⟩ := k3
            dsimp only
            exact ⟨by rw [zup_of (by omega)]; exact n2, by rw [zup_of (by omega)]; exact n3, by rw [zup_of (by omega)]; exact w5, by rw [zup_of (by omega)]; exact w6, by rw [zup_at]; exact n1⟩
          · rw [hn2] at k3
            dsimp only
            rw [zup_of (by omega)]; exact k3
        · rw [s127 (c4.tx h) z2 z3 (by omega) 44, zbV_some, hs2]
          dsimp only [goC]
          have c5 : Cs σ (zup σ3 8 3 (e : Int)) := c4.up ⟨by decide, by decide⟩
          rw [s129e (by rw [zup_at]; omega), zbI_some]
          exact ⟨_, rfl, c5.up ⟨by decide, by decide⟩, by rw [zup_of (by omega), zup_at]⟩
      · rw [hn] at q3
        exact dead _ e c4 (by rw [zup_of (by omega)]; exact q3)
    · dsimp only [goC]
      rw [s129e (by rw [zup_at]; omega), zbI_some]
      exact dead _ e ((c1.up ⟨by decide, by decide⟩).up ⟨by decide, by decide⟩) (by rw [zup_of (by omega), zup_at])
  · dsimp only [goC, pb]
    have c1 : Cs σ (zup (zup σ 8 3 (e : Int)) 8 5 0) := ((Cs.rf σ).up ⟨by decide, by decide⟩).up ⟨by decide, by decide⟩
    have p2 : (zup (zup σ 8 3 (e : Int)) 8 5 0) 8 3 = (e : Int) := by rw [zup_of (by omega), zup_at]
    rw [s127e (by rw [p2]; omega), zbV_some, s129e (by rw [p2]; omega), zbI_some]
    exact dead _ e (c1.up ⟨by decide, by decide⟩) (by rw [zup_of (by omega)]; exact p2)
