/-! ===== 51: reading the text: bytes, signs, digits, numbers ===== -/
/-- the byte at a, or -1 -/
def nb (T : Row) (t a : Nat) : Int := if a < t then T a else -1
/-- a value and where it ends, or where it fails -/
abbrev PR : Type := (Int × Nat) ⊕ Nat
def dgP (T : Row) (t : Nat) (lo hi : Int) (a : Nat) : PR := if lo ≤ nb T t a - 48 ∧ nb T t a - 48 ≤ hi then .inl (nb T t a - 48, a + 1) else .inr a
def sgP (T : Row) (t : Nat) (c : Int) (a : Nat) : PR := if nb T t a = c then .inl (0, a + 1) else .inr a
abbrev isD (T : Row) (t a : Nat) : Prop := 48 ≤ nb T t a ∧ nb T t a ≤ 57
def nuL (T : Row) (t : Nat) : Nat → Nat → Int → Int × Nat
  | 0, a, v => (v, a)
  | n + 1, a, v => if isD T t a then nuL T t n (a + 1) (10 * v + nb T t a - 48) else (v, a)
def nuP (T : Row) (t : Nat) (n : Nat) (lo hi : Int) (a : Nat) : PR := if (nuL T t n a 0).2 = a then .inr a else if isD T t (nuL T t n a 0).2 then .inr (nuL T t n a 0).2 else if lo ≤ (nuL T t n a 0).1 ∧ (nuL T t n a 0).1 ≤ hi then .inl (nuL T t n a 0) else .inr a
/-- the text in the class, in the model -/
def TxC (σ : zSt) (t : Nat) (T : Row) : Prop := t ≤ 100 ∧ σ 8 1 = (t : Int) ∧ (∀ i, i < t → σ 64 i = T i) ∧ ∀ i, i < t → 0 ≤ T i ∧ T i ≤ 127
def TxM (τ : zSt) (t : Nat) (T : Row) : Prop := t ≤ 100 ∧ τ 9 6 = (t : Int) ∧ (∀ i, i < t → τ 68 i = T i) ∧ ∀ i, i < t → 0 ≤ T i ∧ T i ≤ 127
theorem nb_rng {σ : zSt} {t : Nat} {T : Row} (h : TxC σ t T) (a : Nat) : -1 ≤ nb T t a ∧ nb T t a ≤ 127 := by
  unfold nb
  by_cases c : a < t
  · rw [if_pos c]; have := h.2.2.2 a c; omega
  · rw [if_neg c]; omega
theorem nb_rngM {σ : zSt} {t : Nat} {T : Row} (h : TxM σ t T) (a : Nat) : -1 ≤ nb T t a ∧ nb T t a ≤ 127 := by
  unfold nb
  by_cases c : a < t
  · rw [if_pos c]; have := h.2.2.2 a c; omega
  · rw [if_neg c]; omega
theorem nb_lt {T : Row} {t a : Nat} (h : 0 ≤ nb T t a) : a < t := by
  unfold nb at h
  by_cases c : a < t
  · exact c
  · rw [if_neg c] at h; omega
theorem s125 {σ : zSt} {t : Nat} {T : Row} (h : TxC σ t T) {a : Nat} (ha : σ 8 2 = (a : Int)) : zE 125 0 [some (zR 8)] [] σ = zRI (nb T t a) σ := by
  have ht := h.1
  rw [X125_0, ha, h.2.1, if_neg (by omega)]
  unfold nb
  by_cases c : a < t
  · rw [if_pos (by omega), if_pos (by omega), zgd_pos (by omega), toNat_n, h.2.2.1 a c, if_pos c]
  · rw [if_neg (by omega), if_neg c]
theorem s105 {τ : zSt} {t : Nat} {T : Row} (h : TxM τ t T) {a : Nat} (ha : τ 9 7 = (a : Int)) : zE 105 0 [some (zR 9)] [] τ = zRI (nb T t a) τ := by
  have ht := h.1
  rw [X105_0, ha, h.2.1]
  unfold nb
  by_cases c : a < t
  · rw [if_pos (by omega), zgd_pos (by omega), toNat_n, h.2.2.1 a c, if_pos c]
  · rw [if_neg (by omega), if_neg c]
theorem s126 {σ : zSt} {t : Nat} {T : Row} (h : TxC σ t T) {a : Nat} (ha : σ 8 2 = (a : Int)) : zE 126 0 [some (zR 8)] [] σ = zRI (if isD T t a then 1 else 0) σ := by
  rw [X126_0, s125 h ha, zbI_some, s33, zbI_some, zgd_pos (ite01 _)]
/-- where the class's reader goes: on at b, or stopped at e -/
def goC (σ : zSt) (r : PR) : zSt := match r with
  | .inl (_, b) => zup σ 8 2 (b : Int)
  | .inr e => zup σ 8 3 (e : Int)
theorem s127 {σ : zSt} {t : Nat} {T : Row} (h : TxC σ t T) {a : Nat} (ha : σ 8 2 = (a : Int)) (he : σ 8 3 = -1) (hat : a ≤ 200) (c : Int) : zE 127 0 [some (zR 8), some (zI c)] [] σ = zRV (goC σ (sgP T t c a)) := by
  rw [X127_0, if_pos he, s125 h ha, zbI_some]
  unfold sgP
  by_cases q : nb T t a = c
  · rw [if_pos q, if_pos q, ha, zw_nat1 (by omega)]; rfl
  · rw [if_neg q, if_neg q, ha]; rfl
theorem s127e {σ : zSt} (he : σ 8 3 ≠ -1) (c : Int) : zE 127 0 [some (zR 8), some (zI c)] [] σ = zRV σ := by
  rw [X127_0, if_neg he]
theorem s128 {σ : zSt} {t : Nat} {T : Row} (h : TxC σ t T) {a : Nat} (ha : σ 8 2 = (a : Int)) (he : σ 8 3 = -1) (hat : a ≤ 200) (lo hi : Int) : zE 128 0 [some (zR 8), some (zI lo), some (zI hi), none] [] σ = zRI (match dgP T t lo hi a with | .inl (v, _) => v | .inr _ => 0) (goC σ (dgP T t lo hi a)) := by
  have hr := nb_rng h a
  rw [X128_0, if_pos he, s125 h ha, zbI_some, zw_id (x := nb T t a - 48) (by omega) (by omega), s33, zbI_some]
  unfold dgP
  by_cases q : lo ≤ nb T t a - 48 ∧ nb T t a - 48 ≤ hi
  · rw [if_pos q, if_neg i10, if_pos q, ha, zw_nat1 (by omega)]; rfl
  · rw [if_neg q, if_pos rfl, if_neg q, ha]; rfl
theorem s128e {σ : zSt} (he : σ 8 3 ≠ -1) (lo hi : Int) : zE 128 0 [some (zR 8), some (zI lo), some (zI hi), none] [] σ = zRI 0 σ := by
  rw [X128_0, if_neg he]
theorem s129e {σ : zSt} (he : σ 8 3 ≠ -1) (n lo hi : Int) : zE 129 0 [some (zR 8), some (zI n), some (zI lo), some (zI hi), none, none, none] [] σ = zRI 0 σ := by
  rw [X129_0, if_neg he]
theorem nuL_le {T : Row} {t : Nat} : ∀ (n a : Nat) (v : Int), a ≤ (nuL T t n a v).2 ∧ (nuL T t n a v).2 ≤ a + n := by
  intro n
  induction n with
  | zero => intro a v; exact ⟨Nat.le_refl _, Nat.le_refl _⟩
  | succ n ih =>
    intro a v
    unfold nuL
    by_cases c : isD T t a
    · rw [if_pos c]
      have := ih (a + 1) (10 * v + nb T t a - 48)
      omega
    · rw [if_neg c]; dsimp only; omega
/-- small enough, with n digits to come -/
def nuB (n : Nat) (v : Int) : Prop := 0 ≤ v ∧ n ≤ 3 ∧ (n = 0 → v ≤ 9999) ∧ (n = 1 → v ≤ 999) ∧ (n = 2 → v ≤ 99) ∧ (n = 3 → v ≤ 9)
theorem nuB_next {n : Nat} {v d : Int} (h : nuB (n + 1) v) (hd : 48 ≤ d ∧ d ≤ 57) : nuB n (10 * v + d - 48) ∧ v ≤ 999 := by
  unfold nuB at *
  omega
theorem zup_zup {σ : zSt} {k i : Nat} {v w : Int} : zup (zup σ k i v) k i w = zup σ k i w := by
  funext k' i'
  unfold zup
  by_cases c : k' = k ∧ i' = i
  · rw [if_pos c, if_pos c]
  · rw [if_neg c, if_neg c, if_neg c]
theorem TxC.go {σ : zSt} {t : Nat} {T : Row} (h : TxC σ t T) {i : Nat} {v : Int} (hi : i ≠ 1) : TxC (zup σ 8 i v) t T := ⟨h.1, by rw [zup_of (by omega)]; exact h.2.1, fun i' hi' => by rw [zup_off (by decide)]; exact h.2.2.1 i' hi', h.2.2.2⟩
theorem TxM.go {τ : zSt} {t : Nat} {T : Row} (h : TxM τ t T) {i : Nat} {v : Int} (hi : i ≠ 6) : TxM (zup τ 9 i v) t T := ⟨h.1, by rw [zup_of (by omega)]; exact h.2.1, fun i' hi' => by rw [zup_off (by decide)]; exact h.2.2.1 i' hi', h.2.2.2⟩
theorem s129_go {σ : zSt} {t : Nat} {T : Row} (h : TxC σ t T) (N lo hi : Int) (p : Int) : ∀ (n a l6 : Nat) (v : Int), nuB n v → (l6 : Int) + n = N → N ≤ 10 → a + n ≤ 300 → ∃ l6' : Int, zE 129 22 [some (zR 8), some (zI N), some (zI lo), some (zI hi), some (zI p), some (zI v), some (zI (l6 : Int))] [] (zup σ 8 2 (a : Int)) = zE 129 66 [some (zR 8), some (zI N), some (zI lo), some (zI hi), some (zI p), some (zI (nuL T t n a v).1), some (zI l6')] [] (zup σ 8 2 ((nuL T t n a v).2 : Int)) := by
  intro n
  induction n with
  | zero =>
    intro a l6 v hv hl h3 ha
    rw [X129_22, if_neg (by omega)]
    exact ⟨_, rfl⟩
  | succ n ih =>
    intro a l6 v hv hl h3 ha
    have hr := nb_rng h a
    have tx : TxC (zup σ 8 2 (a : Int)) t T := h.go (by decide)
    rw [X129_22, if_pos (by omega), s126 tx (zup_at _ _ _ _), zbI_some]
    unfold nuL
    by_cases c : isD T t a
    · obtain ⟨b1, b2⟩ := nuB_next hv c
      have hv0 := hv.1
      have hv3 := hv.2.1
      rw [if_pos c, if_neg i10, s125 tx (zup_at _ _ _ _), zbI_some, zup_at, zup_zup, if_pos c, zw_nat1 (by omega), zw_id (x := 10 * v) (by omega) (by omega), zw_id (x := 10 * v + nb T t a) (by omega) (by omega), zw_id (x := 10 * v + nb T t a - 48) (by omega) (by omega), zw_nat1 (by omega)]
      exact ih (a + 1) (l6 + 1) _ b1 (by omega) (by omega) (by omega)
    · rw [if_neg c, if_pos rfl, if_neg c]
      exact ⟨_, rfl⟩
/-- the pure reader's answer for a number, before the checks -/
theorem s129 {σ : zSt} {t : Nat} {T : Row} (h : TxC σ t T) {a : Nat} (ha : σ 8 2 = (a : Int)) (he : σ 8 3 = -1) (hat : a ≤ 200) {n : Nat} (hn : 1 ≤ n ∧ n ≤ 3) (lo hi : Int) : ∃ (v : Int) (σ' : zSt), zE 129 0 [some (zR 8), some (zI (n : Int)), some (zI lo), some (zI hi), none, none, none] [] σ = zRI v σ' ∧ (∀ k, k ≠ 8 → σ' k = σ k) ∧ (∀ i, i ≠ 2 → i ≠ 3 → σ' 8 i = σ 8 i) ∧ match nuP T t n lo hi a with
    | .inl (w, b) => v = w ∧ σ' 8 2 = (b : Int) ∧ σ' 8 3 = -1
    | .inr e => σ' 8 3 = (e : Int) := by
  have z0 : zup σ 8 2 (a : Int) = σ := by
    funext k i
    unfold zup
    by_cases c : k = 8 ∧ i = 2
    · rw [if_pos c, c.1, c.2, ha]
    · rw [if_neg c]
  obtain ⟨l6', e1⟩ := s129_go h n lo hi (a : Int) n a 0 0 (by unfold nuB; omega) (by omega) (by omega) (by omega)
  rw [z0] at e1
  have e1' : zE 129 22 [some (zR 8), some (zI (n : Int)), some (zI lo), some (zI hi), some (zI (a : Int)), some (zI 0), some (zI 0)] [] σ = _ := e1
  rw [X129_0, if_pos he, ha, e1', X129_66, zup_at]
  have tx : TxC (zup σ 8 2 ((nuL T t n a 0).2 : Int)) t T := h.go (by decide)
  have g3 : ∀ x : Nat, (zup σ 8 2 (x : Int)) 8 3 = -1 := fun x => by rw [zup_of (by omega)]; exact he
  unfold nuP
  by_cases c1 : (nuL T t n a 0).2 = a
  · rw [if_pos (by omega), if_pos c1]
    refine ⟨_, _, rfl, fun k hk => by rw [zup_off hk, zup_off hk], fun i h2 h3 => by rw [zup_of (by omega), zup_of (by omega)], ?_⟩
    dsimp only
    rw [zup_at, c1]
  · rw [if_neg (c := ((nuL T t n a 0).2 : Int) = (a : Int)) (by omega), if_neg c1, s126 tx (zup_at _ _ _ _), zbI_some]
    by_cases c2 : isD T t (nuL T t n a 0).2
    · rw [if_pos c2, if_neg i10, if_pos c2]
      refine ⟨_, _, rfl, fun k hk => by rw [zup_off hk, zup_off hk], fun i h2 h3 => by rw [zup_of (by omega), zup_of (by omega)], ?_⟩
      dsimp only
      rw [zup_at, zup_at]
    · rw [if_neg c2, if_pos rfl, if_neg c2, s33, zbI_some]
      by_cases c3 : lo ≤ (nuL T t n a 0).1 ∧ (nuL T t n a 0).1 ≤ hi
      · rw [if_pos c3, if_neg i10, if_pos c3]
        exact ⟨_, _, rfl, fun k hk => by rw [zup_off hk], fun i h2 h3 => by rw [zup_of (by omega)], rfl, zup_at _ _ _ _, g3 _⟩
      · rw [if_neg c3, if_pos rfl, if_neg c3]
        refine ⟨_, _, rfl, fun k hk => by rw [zup_off hk, zup_off hk], fun i h2 h3 => by rw [zup_of (by omega), zup_of (by omega)], ?_⟩
        dsimp only
        rw [zup_at]
/-! the model's -/
theorem s106 {τ : zSt} {t : Nat} {T : Row} (h : TxM τ t T) {a : Nat} (ha : τ 9 7 = (a : Int)) (hat : a ≤ 200) (c : Int) : zE 106 0 [some (zR 9), some (zI c), none] [] τ = match sgP T t c a with
    | .inl (_, b) => zRI 1 (zup τ 9 7 (b : Int))
    | .inr e => zRI 0 (zup τ 9 7 (e : Int)) := by
  rw [X106_0, s105 h ha, zbI_some, X106_13, ha]
  unfold sgP
  by_cases q : nb T t a = c
  · rw [if_pos q, if_pos q, if_neg i10, zgd_pos (Or.inr rfl), zw_nat1 (by omega)]
  · rw [if_neg q, if_neg q, if_pos rfl, zgd_pos (Or.inl rfl), Int.add_zero, zw_id (by omega) (by omega)]
theorem s107 {τ : zSt} {t : Nat} {T : Row} (h : TxM τ t T) {a : Nat} (ha : τ 9 7 = (a : Int)) (hat : a ≤ 200) {lo hi : Int} (hlo : 0 ≤ lo) : zE 107 0 [some (zR 9), some (zI lo), some (zI hi), none, none] [] τ = match dgP T t lo hi a with
    | .inl (v, b) => zRI v (zup τ 9 7 (b : Int))
    | .inr e => zRI (-1) (zup τ 9 7 (e : Int)) := by
  have hr := nb_rngM h a
  rw [X107_0, s105 h ha, zbI_some, s105 h ha, zbI_some, zw_id (x := nb T t a - 48) (by omega) (by omega)]
  unfold dgP
  by_cases q0 : nb T t a < 0
  · rw [if_pos q0, X107_28, X107_29, X107_46, if_pos rfl, if_pos rfl, if_neg (by omega), ha, Int.add_zero, zw_id (by omega) (by omega)]
  · rw [if_neg q0, s38, zbI_some, X107_29, X107_46, ha]
    by_cases q : lo ≤ nb T t a - 48 ∧ nb T t a - 48 ≤ hi
    · rw [if_pos q, if_neg i10, if_neg i10, if_neg i10, if_pos q, zw_nat1 (by omega)]
    · rw [if_neg q, if_pos rfl, if_pos rfl, if_pos rfl, if_neg q, Int.add_zero, zw_id (by omega) (by omega)]
theorem s108_go {τ : zSt} {t : Nat} {T : Row} (h : TxM τ t T) (N lo hi : Int) (p : Nat) : ∀ (n a : Nat) (v : Int), nuB n v → (a : Int) + n = p + N → N ≤ 10 → a + n ≤ 300 → p ≤ 300 → zE 108 9 [some (zR 9), some (zI N), some (zI lo), some (zI hi), some (zI (p : Int)), some (zI v)] [] (zup τ 9 7 (a : Int)) = zE 108 62 [some (zR 9), some (zI N), some (zI lo), some (zI hi), some (zI (p : Int)), some (zI (nuL T t n a v).1)] [] (zup τ 9 7 ((nuL T t n a v).2 : Int)) := by
  intro n
  induction n with
  | zero =>
    intro a v hv hl h3 ha hp
    rw [X108_9, zup_at, zw_id (by omega) (by omega), if_neg (by omega)]
    rfl
  | succ n ih =>
    intro a v hv hl h3 ha hp
    have hr := nb_rngM h a
    have tx : TxM (zup τ 9 7 (a : Int)) t T := h.go (by decide)
    rw [X108_9, zup_at, zw_id (x := (a : Int) - p) (by omega) (by omega), if_pos (by omega), s105 tx (zup_at _ _ _ _), zbI_some, s38, zbI_some]
    unfold nuL
    by_cases c : isD T t a
    · obtain ⟨b1, b2⟩ := nuB_next hv c
      have hv0 := hv.1
      rw [if_pos c, if_neg i10, s105 tx (zup_at _ _ _ _), zbI_some, zup_at, zup_zup, if_pos c, zw_nat1 (by omega), zw_id (x := 10 * v) (by omega) (by omega), zw_id (x := 10 * v + nb T t a) (by omega) (by omega), zw_id (x := 10 * v + nb T t a - 48) (by omega) (by omega)]
      exact ih (a + 1) _ b1 (by omega) (by omega) (by omega) hp
    · rw [if_neg c, if_pos rfl, if_neg c]
theorem s108 {τ : zSt} {t : Nat} {T : Row} (h : TxM τ t T) {a : Nat} (ha : τ 9 7 = (a : Int)) (hat : a ≤ 200) {n : Nat} (hn : 1 ≤ n ∧ n ≤ 3) {lo hi : Int} (hlo : 0 ≤ lo) : zE 108 0 [some (zR 9), some (zI (n : Int)), some (zI lo), some (zI hi), none, none] [] τ = match nuP T t n lo hi a with
    | .inl (w, b) => zRI w (zup τ 9 7 (b : Int))
    | .inr e => zRI (-1) (zup τ 9 7 (e : Int)) := by
  have z0 : zup τ 9 7 (a : Int) = τ := by
    funext k i
    unfold zup
    by_cases c : k = 9 ∧ i = 7
    · rw [if_pos c, c.1, c.2, ha]
    · rw [if_neg c]
  have e1 := s108_go h n lo hi a n a 0 (by unfold nuB; omega) (by omega) (by omega) (by omega) (by omega)
  rw [z0] at e1
  have tx : TxM (zup τ 9 7 ((nuL T t n a 0).2 : Int)) t T := h.go (by decide)
  rw [X108_0, ha, e1, X108_62, zup_at]
  unfold nuP
  by_cases c1 : (nuL T t n a 0).2 = a
  · rw [if_pos (by omega), if_pos c1, c1]
  · rw [if_neg (c := ((nuL T t n a 0).2 : Int) = (a : Int)) (by omega), if_neg c1, s105 tx (zup_at _ _ _ _), zbI_some, s38, zbI_some]
    by_cases c2 : isD T t (nuL T t n a 0).2
    · rw [if_pos c2, if_neg i10, if_pos c2]
    · rw [if_neg c2, if_pos rfl, if_neg c2, s38, zbI_some]
      by_cases c3 : lo ≤ (nuL T t n a 0).1 ∧ (nuL T t n a 0).1 ≤ hi
      · rw [if_pos c3, if_neg i10, if_pos c3]
      · rw [if_neg c3, if_pos rfl, if_neg c3, zup_zup]
