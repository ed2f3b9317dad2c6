/-! ===== 52: orders, read on both sides ===== -/
def pb {β : Type} (r : PR) (f : Int → Nat → β ⊕ Nat) : β ⊕ Nat := match r with
  | .inl (v, b) => f v b
  | .inr e => .inr e
/-- first, second, third, next; or where it fails -/
abbrev OR : Type := (Int × Int × Int × Nat) ⊕ Nat
def jP (T : Row) (t a : Nat) : OR := pb (dgP T t 1 9 a) fun f b => pb (sgP T t 44 b) fun _ c => pb (nuP T t 3 0 999 c) fun s d => .inl (f, s, 0, d)
def oP (T : Row) (t a : Nat) : OR := pb (dgP T t 0 5 a) fun f b => pb (dgP T t 0 4 b) fun s c => pb (sgP T t 44 c) fun _ d => pb (nuP T t 2 1 20 d) fun u e => .inl (f, s, u, e)
def kP (T : Row) (t a : Nat) : OR := pb (dgP T t 0 4 a) fun f b => pb (sgP T t 44 b) fun _ c => pb (nuP T t 3 0 500 c) fun s d => pb (sgP T t 44 d) fun _ e => pb (nuP T t 2 1 50 e) fun u g => .inl (f, s, u, g)
def pP (T : Row) (t a : Nat) : OR := pb (dgP T t 0 3 a) fun f b => .inl (f, 0, 0, b)
theorem dgP_pos {T : Row} {t a b : Nat} {lo hi v : Int} (h : dgP T t lo hi a = .inl (v, b)) : b = a + 1 ∧ lo ≤ v ∧ v ≤ hi := by
  unfold dgP at h
  split at h
  · rename_i q
    cases h
    exact ⟨rfl, q.1, q.2⟩
  · cases h
theorem sgP_pos {T : Row} {t a b : Nat} {c v : Int} (h : sgP T t c a = .inl (v, b)) : b = a + 1 ∧ nb T t a = c := by
  unfold sgP at h
  split at h
  · rename_i q
    cases h
    exact ⟨rfl, q⟩
  · cases h
theorem nuP_pos {T : Row} {t n a b : Nat} {lo hi v : Int} (h : nuP T t n lo hi a = .inl (v, b)) : a < b ∧ b ≤ a + n ∧ lo ≤ v ∧ v ≤ hi := by
  have q := nuL_le (T := T) (t := t) n a 0
  unfold nuP at h
  split at h
  · cases h
  · rename_i q1
    split at h
    · cases h
    · split at h
      · rename_i q3
        have h' := Sum.inl.inj h
        have h1 : (nuL T t n a 0).1 = v := by rw [h']
        have h2 : (nuL T t n a 0).2 = b := by rw [h']
        omega
      · cases h
/-- the class's reader after a step: on at b, or stopped at e; all else as it was but the fields in L -/
def Cs (σ σ' : zSt) : Prop := (∀ k, k ≠ 8 → σ' k = σ k) ∧ σ' 8 1 = σ 8 1 ∧ σ' 8 4 = σ 8 4
theorem Cs.rf (σ : zSt) : Cs σ σ := ⟨fun _ _ => rfl, rfl, rfl⟩
theorem Cs.up {σ σ' : zSt} (h : Cs σ σ') {i : Nat} {v : Int} (hi : i ≠ 1 ∧ i ≠ 4) : Cs σ (zup σ' 8 i v) := ⟨fun k hk => by rw [zup_off hk]; exact h.1 k hk, by rw [zup_of (by omega)]; exact h.2.1, by rw [zup_of (by omega)]; exact h.2.2⟩
theorem Cs.tx {σ σ' : zSt} (h : Cs σ σ') {t : Nat} {T : Row} (x : TxC σ t T) : TxC σ' t T := ⟨x.1, h.2.1.trans x.2.1, fun i hi => by rw [h.1 64 (by decide)]; exact x.2.2.1 i hi, x.2.2.2⟩
theorem c122 {σ : zSt} {t : Nat} {T : Row} (h : TxC σ t T) {a : Nat} (ha : σ 8 2 = (a : Int)) (he : σ 8 3 = -1) (hat : a ≤ 150) : ∃ σ', zE 122 0 [some (zR 8)] [] σ = zRV σ' ∧ Cs σ σ' ∧ match jP T t a with
    | .inl (f, s, _, b) => σ' 8 2 = (b : Int) ∧ σ' 8 3 = -1 ∧ σ' 8 5 = f ∧ σ' 8 6 = s
    | .inr e => σ' 8 3 = (e : Int) := by
  rw [X122_0, s128 h ha he (by omega), zbI_some]
  unfold jP
  rcases hd : dgP T t 1 9 a with ⟨f, b⟩ | e
  · obtain ⟨hb, _, _⟩ := dgP_pos hd
    have c1 : Cs σ (zup (zup σ 8 2 (b : Int)) 8 5 f) := ((Cs.rf σ).up ⟨by decide, by decide⟩).up ⟨by decide, by decide⟩
    have p1 : (zup (zup σ 8 2 (b : Int)) 8 5 f) 8 2 = (b : Int) := by rw [zup_of (by omega), zup_at]
    have p2 : (zup (zup σ 8 2 (b : Int)) 8 5 f) 8 3 = -1 := by rw [zup_of (by omega), zup_of (by omega)]; exact he
    have e1 := s127 (c1.tx h) p1 p2 (by omega) 44
    dsimp only [goC, pb]
    rw [e1, zbV_some]
    rcases hs : sgP T t 44 b with ⟨w, d⟩ | e
    · obtain ⟨hd2, _⟩ := sgP_pos hs
      dsimp only [goC]
      have c2 : Cs σ (zup (zup (zup σ 8 2 (b : Int)) 8 5 f) 8 2 (d : Int)) := c1.up ⟨by decide, by decide⟩
      obtain ⟨v, σ', e2, q1, q2, q3⟩ := s129 (c2.tx h) (zup_at _ _ _ _) (by rw [zup_of (by omega)]; exact p2) (by omega) (n := 3) (by omega) 0 999
      have e2' : zE 129 0 [some (zR 8), some (zI 3), some (zI 0), some (zI 999), none, none, none] [] (zup (zup (zup σ 8 2 (b : Int)) 8 5 f) 8 2 (d : Int)) = zRI v σ' := e2
      rw [e2', zbI_some]
      have c3 : Cs σ σ' := ⟨fun k hk => (q1 k hk).trans (c2.1 k hk), (q2 1 (by decide) (by decide)).trans c2.2.1, (q2 4 (by decide) (by decide)).trans c2.2.2⟩
      have p5 : σ' 8 5 = f := by rw [q2 5 (by decide) (by decide), zup_of (by omega), zup_at]
      refine ⟨_, rfl, c3.up ⟨by decide, by decide⟩, ?_⟩
      rcases hn : nuP T t 3 0 999 d with ⟨s, g⟩ | e
      · rw [hn] at q3
        obtain ⟨r1, r2, r3⟩ := q3
        dsimp only
        exact ⟨by rw [zup_of (by omega)]; exact r2, by rw [zup_of (by omega)]; exact r3, by rw [zup_of (by omega)]; exact p5, by rw [zup_at]; exact r1⟩
      · rw [hn] at q3
        dsimp only
        rw [zup_of (by omega)]; exact q3
    · dsimp only [goC]
      have c2 : Cs σ (zup (zup (zup σ 8 2 (b : Int)) 8 5 f) 8 3 (e : Int)) := c1.up ⟨by decide, by decide⟩
      rw [s129e (by rw [zup_at]; omega), zbI_some]
      exact ⟨_, rfl, c2.up ⟨by decide, by decide⟩, by rw [zup_of (by omega), zup_at]⟩
  · dsimp only [goC, pb]
    have c1 : Cs σ (zup (zup σ 8 3 (e : Int)) 8 5 0) := ((Cs.rf σ).up ⟨by decide, by decide⟩).up ⟨by decide, by decide⟩
    have p2 : (zup (zup σ 8 3 (e : Int)) 8 5 0) 8 3 = (e : Int) := by rw [zup_of (by omega), zup_at]
    rw [s127e (by rw [p2]; omega), zbV_some, s129e (by rw [p2]; omega), zbI_some]
    exact ⟨_, rfl, c1.up ⟨by decide, by decide⟩, by rw [zup_of (by omega)]; exact p2⟩
