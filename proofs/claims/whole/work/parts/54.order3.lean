/-! ===== 54: an order, on the model's side ===== -/
def Ms (τ τ' : zSt) : Prop := (∀ k, k ≠ 9 → τ' k = τ k) ∧ τ' 9 6 = τ 9 6 ∧ τ' 9 4 = τ 9 4 ∧ τ' 9 0 = τ 9 0 ∧ τ' 9 8 = τ 9 8
theorem Ms.rf (τ : zSt) : Ms τ τ := ⟨fun _ _ => rfl, rfl, rfl, rfl, rfl⟩
theorem Ms.up {τ τ' : zSt} (h : Ms τ τ') {i : Nat} {v : Int} (hi : i ≠ 6 ∧ i ≠ 4 ∧ i ≠ 0 ∧ i ≠ 8) : Ms τ (zup τ' 9 i v) := ⟨fun k hk => by rw [zup_off hk]; exact h.1 k hk, by rw [zup_of (by omega)]; exact h.2.1, by rw [zup_of (by omega)]; exact h.2.2.1, by rw [zup_of (by omega)]; exact h.2.2.2.1, by rw [zup_of (by omega)]; exact h.2.2.2.2⟩
theorem Ms.tx {τ τ' : zSt} (h : Ms τ τ') {t : Nat} {T : Row} (x : TxM τ t T) : TxM τ' t T := ⟨x.1, h.2.1.trans x.2.1, fun i hi => by rw [h.1 68 (by decide)]; exact x.2.2.1 i hi, x.2.2.2⟩
/-- what the model's fields say after the body of an order -/
def BdM (τ' : zSt) (v : Int) (k : Int) (r : OR) : Prop := match r with
  | .inl (f, s, u, b) => v = 1 ∧ τ' 9 7 = (b : Int) ∧ τ' 9 9 = f ∧ (k ≠ 112 → τ' 9 10 = s) ∧ (k = 111 ∨ k = 100 → τ' 9 11 = u)
  | .inr e => v = 0 ∧ τ' 9 7 = (e : Int)
theorem m109 {τ : zSt} {t : Nat} {T : Row} (h : TxM τ t T) {a : Nat} (ha : τ 9 7 = (a : Int)) (hat : a ≤ 150) : ∃ v τ', zE 109 0 [some (zR 9)] [] τ = zRI v τ' ∧ Ms τ τ' ∧ BdM τ' v 106 (jP T t a) := by
  rw [X109_0, s107 h ha (by omega) (by omega)]
  unfold jP
  rcases hd : dgP T t 1 9 a with ⟨f, b⟩ | e
  · obtain ⟨hb, hf, _⟩ := dgP_pos hd
    dsimp only [pb]
    have c1 : Ms τ (zup (zup τ 9 7 (b : Int)) 9 9 f) := ((Ms.rf τ).up ⟨by decide, by decide, by decide, by decide⟩).up ⟨by decide, by decide, by decide, by decide⟩
    have p1 : (zup (zup τ 9 7 (b : Int)) 9 9 f) 9 7 = (b : Int) := by rw [zup_of (by omega), zup_at]
    rw [zbI_some, zup_at, if_neg (by omega), s106 (c1.tx h) p1 (by omega) 44]
    rcases hs : sgP T t 44 b with ⟨w, c⟩ | e
    · obtain ⟨hc, _⟩ := sgP_pos hs
      dsimp only
      have c2 : Ms τ (zup (zup (zup τ 9 7 (b : Int)) 9 9 f) 9 7 (c : Int)) := c1.up ⟨by decide, by decide, by decide, by decide⟩
      have e2 := s108 (c2.tx h) (zup_at _ _ _ _) (by omega) (n := 3) (by omega) (lo := 0) (hi := 999) (by omega)
      have e2' : zE 108 0 [some (zR 9), some (zI 3), some (zI 0), some (zI 999), none, none] [] (zup (zup (zup τ 9 7 (b : Int)) 9 9 f) 9 7 (c : Int)) = _ := e2
      rw [zbI_some, if_neg i10, e2']
      rcases hn : nuP T t 3 0 999 c with ⟨s, g⟩ | e
      · have a3 := nuP_pos hn
        dsimp only
        rw [zbI_some, zup_at, if_neg (by omega), zgd_pos (Or.inr rfl)]
        exact ⟨1, _, rfl, (c2.up ⟨by decide, by decide, by decide, by decide⟩).up ⟨by decide, by decide, by decide, by decide⟩, rfl, by rw [zup_of (by omega), zup_at], by rw [zup_of (by omega), zup_of (by omega), zup_of (by omega), zup_at], fun _ => zup_at _ _ _ _, fun q => by omega⟩
      · dsimp only
        rw [zbI_some, zup_at, if_pos rfl, zgd_pos (Or.inl rfl)]
        exact ⟨0, _, rfl, (c2.up ⟨by decide, by decide, by decide, by decide⟩).up ⟨by decide, by decide, by decide, by decide⟩, rfl, by rw [zup_of (by omega), zup_at]⟩
    · dsimp only
      rw [zbI_some, if_pos rfl]
      exact ⟨0, _, rfl, c1.up ⟨by decide, by decide, by decide, by decide⟩, rfl, zup_at _ _ _ _⟩
  · dsimp only [pb]
    rw [zbI_some, zup_at, if_pos rfl]
    exact ⟨0, _, rfl, ((Ms.rf τ).up ⟨by decide, by decide, by decide, by decide⟩).up ⟨by decide, by decide, by decide, by decide⟩, rfl, by rw [zup_of (by omega), zup_at]⟩
theorem m110 {τ : zSt} {t : Nat} {T : Row} (h : TxM τ t T) {a : Nat} (ha : τ 9 7 = (a : Int)) (hat : a ≤ 150) : ∃ v τ', zE 110 0 [some (zR 9)] [] τ = zRI v τ' ∧ Ms τ τ' ∧ BdM τ' v 111 (oP T t a) := by
  rw [X110_0, s107 h ha (by omega) (by omega)]
  unfold oP
  rcases hd : dgP T t 0 5 a with ⟨f, b⟩ | e
  · obtain ⟨hb, hf, _⟩ := dgP_pos hd
    dsimp only [pb]
    have c1 : Ms τ (zup (zup τ 9 7 (b : Int)) 9 9 f) := ((Ms.rf τ).up ⟨by decide, by decide, by decide, by decide⟩).up ⟨by decide, by decide, by decide, by decide⟩
    have p1 : (zup (zup τ 9 7 (b : Int)) 9 9 f) 9 7 = (b : Int) := by rw [zup_of (by omega), zup_at]
    have p9 : (zup (zup τ 9 7 (b : Int)) 9 9 f) 9 9 = f := zup_at _ _ _ _
    rw [zbI_some, p9, if_neg (by omega)]
    generalize zup (zup τ 9 7 (b : Int)) 9 9 f = τ1 at *
    rw [s107 (c1.tx h) p1 (by omega) (by omega)]
    rcases hd2 : dgP T t 0 4 b with ⟨s, c⟩ | e
    · obtain ⟨hc, hs0, _⟩ := dgP_pos hd2
      dsimp only
      have c2 : Ms τ (zup (zup τ1 9 7 (c : Int)) 9 10 s) := (c1.up ⟨by decide, by decide, by decide, by decide⟩).up ⟨by decide, by decide, by decide, by decide⟩
      have r1 : (zup (zup τ1 9 7 (c : Int)) 9 10 s) 9 7 = (c : Int) := by rw [zup_of (by omega), zup_at]
      have r9 : (zup (zup τ1 9 7 (c : Int)) 9 10 s) 9 9 = f := by rw [zup_of (by omega), zup_of (by omega)]; exact p9
      have r10 : (zup (zup τ1 9 7 (c : Int)) 9 10 s) 9 10 = s := zup_at _ _ _ _
      rw [zbI_some, r10, if_neg (by omega)]
      generalize zup (zup τ1 9 7 (c : Int)) 9 10 s = τ2 at *
      rw [s106 (c2.tx h) r1 (by omega) 44]
      rcases hs : sgP T t 44 c with ⟨w, d⟩ | e
      · obtain ⟨hd3, _⟩ := sgP_pos hs
        dsimp only
        have c3 : Ms τ (zup τ2 9 7 (d : Int)) := c2.up ⟨by decide, by decide, by decide, by decide⟩
        have e2 := s108 (c3.tx h) (zup_at _ _ _ _) (by omega) (n := 2) (by omega) (lo := 1) (hi := 20) (by omega)
        have e2' : zE 108 0 [some (zR 9), some (zI 2), some (zI 1), some (zI 20), none, none] [] (zup τ2 9 7 (d : Int)) = _ := e2
        rw [zbI_some, if_neg i10, e2']
        rcases hn : nuP T t 2 1 20 d with ⟨u, g⟩ | e
        · have a3 := nuP_pos hn
          dsimp only
          rw [zbI_some, zup_at, if_neg (by omega), zgd_pos (Or.inr rfl)]
          exact ⟨1, _, rfl, (c3.up ⟨by decide, by decide, by decide, by decide⟩).up ⟨by decide, by decide, by decide, by decide⟩, rfl, by rw [zup_of (by omega), zup_at], by rw [zup_of (by omega), zup_of (by omega), zup_of (by omega)]; exact r9, fun _ => by rw [zup_of (by omega), zup_of (by omega), zup_of (by omega)]; exact r10, fun _ => zup_at _ _ _ _⟩
        · dsimp only
          rw [zbI_some, zup_at, if_pos rfl, zgd_pos (Or.inl rfl)]
          exact ⟨0, _, rfl, (c3.up ⟨by decide, by decide, by decide, by decide⟩).up ⟨by decide, by decide, by decide, by decide⟩, rfl, by rw [zup_of (by omega), zup_at]⟩
      · dsimp only
        rw [zbI_some, if_pos rfl]
        exact ⟨0, _, rfl, c2.up ⟨by decide, by decide, by decide, by decide⟩, rfl, zup_at _ _ _ _⟩
    · dsimp only
      rw [zbI_some, zup_at, if_pos rfl]
      exact ⟨0, _, rfl, (c1.up ⟨by decide, by decide, by decide, by decide⟩).up ⟨by decide, by decide, by decide, by decide⟩, rfl, by rw [zup_of (by omega), zup_at]⟩
  · dsimp only [pb]
    rw [zbI_some, zup_at, if_pos rfl]
    exact ⟨0, _, rfl, ((Ms.rf τ).up ⟨by decide, by decide, by decide, by decide⟩).up ⟨by decide, by decide, by decide, by decide⟩, rfl, by rw [zup_of (by omega), zup_at]⟩
theorem m111 {τ : zSt} {t : Nat} {T : Row} (h : TxM τ t T) {a : Nat} (ha : τ 9 7 = (a : Int)) (hat : a ≤ 150) : ∃ v τ', zE 111 0 [some (zR 9)] [] τ = zRI v τ' ∧ Ms τ τ' ∧ BdM τ' v 100 (kP T t a) := by
  rw [X111_0, s107 h ha (by omega) (by omega)]
  unfold kP
  rcases hd : dgP T t 0 4 a with ⟨f, b⟩ | e
  · obtain ⟨hb, hf, _⟩ := dgP_pos hd
    dsimp only [pb]
    have c1 : Ms τ (zup (zup τ 9 7 (b : Int)) 9 9 f) := ((Ms.rf τ).up ⟨by decide, by decide, by decide, by decide⟩).up ⟨by decide, by decide, by decide, by decide⟩
    have p1 : (zup (zup τ 9 7 (b : Int)) 9 9 f) 9 7 = (b : Int) := by rw [zup_of (by omega), zup_at]
    have p9 : (zup (zup τ 9 7 (b : Int)) 9 9 f) 9 9 = f := zup_at _ _ _ _
    rw [zbI_some, p9, if_neg (by omega)]
    generalize zup (zup τ 9 7 (b : Int)) 9 9 f = τ1 at *
    rw [s106 (c1.tx h) p1 (by omega) 44]
    rcases hs : sgP T t 44 b with ⟨w, c⟩ | e
    · obtain ⟨hc, _⟩ := sgP_pos hs
      dsimp only
      have c2 : Ms τ (zup τ1 9 7 (c : Int)) := c1.up ⟨by decide, by decide, by decide, by decide⟩
      have e2 := s108 (c2.tx h) (zup_at _ _ _ _) (by omega) (n := 3) (by omega) (lo := 0) (hi := 500) (by omega)
      have e2' : zE 108 0 [some (zR 9), some (zI 3), some (zI 0), some (zI 500), none, none] [] (zup τ1 9 7 (c : Int)) = _ := e2
      rw [zbI_some, if_neg i10, e2']
      rcases hn : nuP T t 3 0 500 c with ⟨s, d⟩ | e
      · have a3 := nuP_pos hn
        dsimp only
        have c3 : Ms τ (zup (zup (zup τ1 9 7 (c : Int)) 9 7 (d : Int)) 9 10 s) := (c2.up ⟨by decide, by decide, by decide, by decide⟩).up ⟨by decide, by decide, by decide, by decide⟩
        have r1 : (zup (zup (zup τ1 9 7 (c : Int)) 9 7 (d : Int)) 9 10 s) 9 7 = (d : Int) := by rw [zup_of (by omega), zup_at]
        have r9 : (zup (zup (zup τ1 9 7 (c : Int)) 9 7 (d : Int)) 9 10 s) 9 9 = f := by rw [zup_of (by omega), zup_of (by omega), zup_of (by omega)]; exact p9
        have r10 : (zup (zup (zup τ1 9 7 (c : Int)) 9 7 (d : Int)) 9 10 s) 9 10 = s := zup_at _ _ _ _
        rw [zbI_some, r10, if_neg (by omega)]
        generalize zup (zup (zup τ1 9 7 (c : Int)) 9 7 (d : Int)) 9 10 s = τ2 at *
        rw [s106 (c3.tx h) r1 (by omega) 44]
        rcases hs2 : sgP T t 44 d with ⟨w2, g⟩ | e
        · obtain ⟨hg, _⟩ := sgP_pos hs2
          dsimp only
          have c4 : Ms τ (zup τ2 9 7 (g : Int)) := c3.up ⟨by decide, by decide, by decide, by decide⟩
          have e4 := s108 (c4.tx h) (zup_at _ _ _ _) (by omega) (n := 2) (by omega) (lo := 1) (hi := 50) (by omega)
          have e4' : zE 108 0 [some (zR 9), some (zI 2), some (zI 1), some (zI 50), none, none] [] (zup τ2 9 7 (g : Int)) = _ := e4
          rw [zbI_some, if_neg i10, e4']
          rcases hn2 : nuP T t 2 1 50 g with ⟨u, m⟩ | e
          · have a5 := nuP_pos hn2
            dsimp only
            rw [zbI_some, zup_at, if_neg (by omega), zgd_pos (Or.inr rfl)]
            exact ⟨1, _, rfl, (c4.up ⟨by decide, by decide, by decide, by decide⟩).up ⟨by decide, by decide, by decide, by decide⟩, rfl, by rw [zup_of (by omega), zup_at], by rw [zup_of (by omega), zup_of (by omega), zup_of (by omega)]; exact r9, fun _ => by rw [zup_of (by omega), zup_of (by omega), zup_of (by omega)]; exact r10, fun _ => zup_at _ _ _ _⟩
          · dsimp only
            rw [zbI_some, zup_at, if_pos rfl, zgd_pos (Or.inl rfl)]
            exact ⟨0, _, rfl, (c4.up ⟨by decide, by decide, by decide, by decide⟩).up ⟨by decide, by decide, by decide, by decide⟩, rfl, by rw [zup_of (by omega), zup_at]⟩
        · dsimp only
          rw [zbI_some, if_pos rfl]
          exact ⟨0, _, rfl, c3.up ⟨by decide, by decide, by decide, by decide⟩, rfl, zup_at _ _ _ _⟩
      · dsimp only
        rw [zbI_some, zup_at, if_pos rfl]
        exact ⟨0, _, rfl, (c2.up ⟨by decide, by decide, by decide, by decide⟩).up ⟨by decide, by decide, by decide, by decide⟩, rfl, by rw [zup_of (by omega), zup_at]⟩
    · dsimp only
      rw [zbI_some, if_pos rfl]
      exact ⟨0, _, rfl, c1.up ⟨by decide, by decide, by decide, by decide⟩, rfl, zup_at _ _ _ _⟩
  · dsimp only [pb]
    rw [zbI_some, zup_at, if_pos rfl]
    exact ⟨0, _, rfl, ((Ms.rf τ).up ⟨by decide, by decide, by decide, by decide⟩).up ⟨by decide, by decide, by decide, by decide⟩, rfl, by rw [zup_of (by omega), zup_at]⟩
