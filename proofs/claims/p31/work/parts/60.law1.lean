/-! ===== 60: the law's own workshop: its rows read as a row S; hits, least starts, ranks ===== -/
/-- three machines, three jobs, four operations at most, three breakdowns at most -/
def L3 (S : Row) : Prop := (S 0 = 3 ∧ S 1 = 3) ∧ S 2 ≤ 3 ∧ ∀ j : Nat, j < 3 → rO S j ≤ 4
/-- the law's rows hold what the row S says, plans aside -/
def Wst (σ : zSt) (S : Row) : Prop := σ 9 0 = S 2 ∧ (∀ j : Nat, j < 3 → σ 65 (3 * j) = rW S j ∧ σ 65 (3 * j + 1) = rD S j ∧ σ 65 (3 * j + 2) = rO S j) ∧ (∀ j o, Live S j o → σ 66 (16 * j + 4 * o) = sM S (5 * j + o) ∧ σ 66 (16 * j + 4 * o + 1) = sU S (5 * j + o)) ∧ ∀ b : Nat, (b : Int) < S 2 → σ 68 (3 * b) = bM S b ∧ σ 68 (3 * b + 1) = bF S b ∧ σ 68 (3 * b + 2) = bL S b
def Wpr (σ : zSt) (S : Row) : Prop := ∀ j o, Live S j o → σ 66 (16 * j + 4 * o + 3) = sP S (5 * j + o)
def Wol (σ : zSt) (S : Row) : Prop := ∀ j o, Live S j o → σ 66 (16 * j + 4 * o + 2) = sL S (5 * j + o)
theorem L3.j3 {S : Row} (h : L3 S) {j o : Nat} (hl : Live S j o) : j < 3 ∧ o < 4 := by
  have h1 := hl.1
  have h2 := h.1.2
  have hj : j < 3 := by omega
  have h3 := h.2.2 j hj
  have h4 := hl.2
  exact ⟨hj, by omega⟩
theorem L3.live {S : Row} (h : L3 S) {j o : Nat} (hj : j < 3) (ho : (o : Int) < rO S j) : Live S j o := ⟨by rw [h.1.2]; omega, ho⟩
/-- rows that agree where the static parts lie -/
def Stt (S T : Row) : Prop := ∀ k : Nat, ((k < 23 ∧ k ≠ 3 ∧ k ≠ 4) ∨ 143 ≤ k ∨ k % 4 = 3 ∨ k % 4 = 0) → k ≠ 3 → k ≠ 4 → T k = S k
theorem Sta.stt {S T : Row} (h : Sta S T) : Stt S T := fun k hk h3 h4 => h k (by omega)
theorem Stt.live {S T : Row} (h : Stt S T) (hG : Good S) (j o : Nat) : Live T j o ↔ Live S j o := by
  unfold Live rO
  rw [h 1 (by omega) (by omega) (by omega)]
  constructor
  · rintro ⟨a, b⟩
    have := hG.j6 a
    rw [h _ (by omega) (by omega) (by omega)] at b; exact ⟨a, b⟩
  · rintro ⟨a, b⟩
    have := hG.j6 a
    rw [← h _ (by omega) (by omega) (by omega)] at b; exact ⟨a, b⟩
theorem Stt.l3 {S T : Row} (h : Stt S T) (hG : Good S) (h3 : L3 S) : L3 T := by
  refine ⟨⟨by rw [h 0 (by omega) (by omega) (by omega)]; exact h3.1.1, by rw [h 1 (by omega) (by omega) (by omega)]; exact h3.1.2⟩, by rw [h 2 (by omega) (by omega) (by omega)]; exact h3.2.1, fun j hj => ?_⟩
  unfold rO
  rw [h _ (by omega) (by omega) (by omega)]
  exact h3.2.2 j hj
theorem Wst.of {σ : zSt} {S T : Row} (h : Wst σ S) (st : Stt S T) (hG : Good S) (h3 : L3 S) : Wst σ T := by
  obtain ⟨a1, a2, a3, a4⟩ := h
  refine ⟨by rw [st 2 (by omega) (by omega) (by omega)]; exact a1, fun j hj => ?_, fun j o hl => ?_, fun b hb => ?_⟩
  · unfold rW rD rO
    rw [st _ (by omega) (by omega) (by omega), st _ (by omega) (by omega) (by omega), st _ (by omega) (by omega) (by omega)]
    exact a2 j hj
  · have hl2 := (st.live hG j o).mp hl
    unfold sM sU
    rw [st _ (by omega) (by omega) (by omega), st _ (by omega) (by omega) (by omega)]
    exact a3 j o hl2
  · rw [st 2 (by omega) (by omega) (by omega)] at hb
    unfold bM bF bL
    rw [st _ (by omega) (by omega) (by omega), st _ (by omega) (by omega) (by omega), st _ (by omega) (by omega) (by omega)]
    exact a4 b hb
/-- what a change of plans leaves of the law's rows -/
def Fo (σ σ' : zSt) : Prop := (∀ k : Nat, k ≠ 66 → k ≠ 9 → σ' k = σ k) ∧ (∀ i : Nat, i ≠ 1 → σ' 9 i = σ 9 i) ∧ ∀ x : Nat, x % 4 < 2 → σ' 66 x = σ 66 x
theorem Fo.rf (σ : zSt) : Fo σ σ := ⟨fun _ _ _ => rfl, fun _ _ => rfl, fun _ _ => rfl⟩
theorem Fo.trans {a b c : zSt} (h : Fo a b) (h' : Fo b c) : Fo a c := ⟨fun k h1 h2 => (h'.1 k h1 h2).trans (h.1 k h1 h2), fun i h1 => (h'.2.1 i h1).trans (h.2.1 i h1), fun x h1 => (h'.2.2 x h1).trans (h.2.2 x h1)⟩
theorem Fo.up {σ : zSt} {x : Nat} {v : Int} (hx : 2 ≤ x % 4) : Fo σ (zup σ 66 x v) := ⟨fun k h1 _ => zup_off h1, fun i _ => zup_of (by omega), fun y hy => zup_of (by omega)⟩
theorem Fo.ls {σ σ' : zSt} {S : Row} (e : Fo σ σ') (h : Wst σ S) : Wst σ' S := by
  obtain ⟨a1, a2, a3, a4⟩ := h
  refine ⟨by rw [e.2.1 0 (by omega)]; exact a1, fun j hj => ?_, fun j o hl => ?_, fun b hb => ?_⟩
  · rw [e.1 65 (by omega) (by omega)]; exact a2 j hj
  · rw [e.2.2 _ (by omega), e.2.2 _ (by omega)]; exact a3 j o hl
  · rw [e.1 68 (by omega) (by omega)]; exact a4 b hb
theorem Fo.fl {σ σ' : zSt} (e : Fo σ σ') : FL σ σ' := fun k h1 h2 => e.1 k (by omega) h1
/-- only present starts change -/
def Fp (σ σ' : zSt) : Prop := (∀ k : Nat, k ≠ 66 → σ' k = σ k) ∧ ∀ x : Nat, x % 4 ≠ 3 → σ' 66 x = σ 66 x
theorem Fp.rf (σ : zSt) : Fp σ σ := ⟨fun _ _ => rfl, fun _ _ => rfl⟩
theorem Fp.trans {a b c : zSt} (h : Fp a b) (h' : Fp b c) : Fp a c := ⟨fun k h1 => (h'.1 k h1).trans (h.1 k h1), fun x h1 => (h'.2 x h1).trans (h.2 x h1)⟩
theorem Fp.up {σ : zSt} {x : Nat} {v : Int} (hx : x % 4 = 3) : Fp σ (zup σ 66 x v) := ⟨fun k h1 => zup_off h1, fun y hy => zup_of (by omega)⟩
theorem Fp.fo {σ σ' : zSt} (h : Fp σ σ') : Fo σ σ' := ⟨fun k h1 _ => h.1 k h1, fun i _ => by rw [h.1 9 (by decide)], fun x hx => h.2 x (by omega)⟩
theorem Fp.ll {σ σ' : zSt} {S : Row} (e : Fp σ σ') (h : Wol σ S) : Wol σ' S := fun j o hl => by rw [e.2 _ (by omega)]; exact h j o hl
theorem e4 {j o : Nat} (ho : o < 4) : ((4 * j + o : Nat) : Int) / 4 = (j : Int) ∧ ((4 * j + o : Nat) : Int) % 4 = (o : Int) := by omega
section LAW
variable {σ : zSt} {S : Row}
theorem t172 (h : Wst σ S) {j o : Nat} (hj : j < 3) (ho : o < 4) : zE 172 0 [some (zI ((4 * j + o : Nat) : Int)), some (zR 65)] [] σ = zRI (if (o : Int) < rO S j then 1 else 0) σ := by
  obtain ⟨q1, q2⟩ := e4 (j := j) ho
  have e9 : (3 * (j : Int) + 2).toNat = 3 * j + 2 := by omega
  rw [X172_0, q1, q2, zgd_pos (by omega), zgd_pos (by omega), zw_id (x := 3 * (j : Int)) (by omega) (by omega), zw_id (x := 3 * (j : Int) + 2) (by omega) (by omega), zgd_pos (by omega), e9, (h.2.1 j hj).2.2, zgd_pos (ite01 _)]
theorem t173 {j o : Nat} (hj : j < 3) (ho : o < 4) {q : Nat} (hq : q < 4) : zE 173 0 [some (zI ((4 * j + o : Nat) : Int)), some (zI (q : Int)), some (zR 66)] [] σ = zRI (zw (σ 66 (16 * j + 4 * o + q) + σ 66 (16 * j + 4 * o + 1))) σ := by
  rw [X173_0, zw_id (x := 4 * ((4 * j + o : Nat) : Int)) (by omega) (by omega), zw_id (x := 4 * ((4 * j + o : Nat) : Int) + q) (by omega) (by omega), zw_id (x := 4 * ((4 * j + o : Nat) : Int) + 1) (by omega) (by omega), zgd_pos (by omega), zgd_pos (by omega), show (4 * ((4 * j + o : Nat) : Int) + (q : Int)).toNat = 16 * j + 4 * o + q by omega, show (4 * ((4 * j + o : Nat) : Int) + 1).toNat = 16 * j + 4 * o + 1 by omega]
theorem t173_3 (h : Wst σ S) (h3 : L3 S) (hG : Good S) (hp : Wpr σ S) {B : Int} (hB : PB S B) (hB2 : B ≤ 800000) {j o : Nat} (hl : Live S j o) : zE 173 0 [some (zI ((4 * j + o : Nat) : Int)), some (zI 3), some (zR 66)] [] σ = zRI (sP S (5 * j + o) + sU S (5 * j + o)) σ := by
  obtain ⟨hj, ho⟩ := h3.j3 hl
  have g5 := (hG.2.2.1 j o hl.1 hl.2).2
  have g6 := hB j o hl
  have e := t173 (σ := σ) hj ho (q := 3) (by omega)
  rw [hp j o hl, (h.2.2.1 j o hl).2, zw_id (by omega) (by omega)] at e
  exact e
theorem t174 (h : Wst σ S) (h3 : L3 S) (hG : Good S) {j o : Nat} (hl : Live S j o) {t : Int} (ht : -1 ≤ t ∧ t ≤ 1000000) : (Hits S (5 * j + o) t → zE 174 0 [some (zI ((4 * j + o : Nat) : Int)), some (zI t), some (zR 9), some (zR 66), some (zR 68), none, none] [] σ = zRI 1 σ) ∧ (¬ Hits S (5 * j + o) t → zE 174 0 [some (zI ((4 * j + o : Nat) : Int)), some (zI t), some (zR 9), some (zR 66), some (zR 68), none, none] [] σ = zRI 0 σ) := by
  obtain ⟨hj, ho⟩ := h3.j3 hl
  obtain ⟨gm, gu1, gu2⟩ := hG.2.2.1 j o hl.1 hl.2
  obtain ⟨a1, a2⟩ := h.2.2.1 j o hl
  have g2 := hG.1.2.2.1
  have h2 := h3.2.1
  have w0 : zw (4 * ((4 * j + o : Nat) : Int)) = 4 * ((4 * j + o : Nat) : Int) := zw_id (by omega) (by omega)
  have w1 : zw (4 * ((4 * j + o : Nat) : Int) + 1) = 4 * ((4 * j + o : Nat) : Int) + 1 := zw_id (by omega) (by omega)
  have n0 : (4 * ((4 * j + o : Nat) : Int)).toNat = 16 * j + 4 * o := by omega
  have n1 : (4 * ((4 * j + o : Nat) : Int) + 1).toNat = 16 * j + 4 * o + 1 := by omega
  have key : ∀ (d b : Nat) (v : Int), (b : Int) + d = S 2 → (v = 0 ∨ v = 1) → (v = 1 ↔ ∃ b' : Nat, b' < b ∧ Hit S (5 * j + o) t b') → ∃ v', zE 174 6 [some (zI ((4 * j + o : Nat) : Int)), some (zI t), some (zR 9), some (zR 66), some (zR 68), some (zI v), some (zI (b : Int))] [] σ = zRI v' σ ∧ (v' = 0 ∨ v' = 1) ∧ (v' = 1 ↔ Hits S (5 * j + o) t) := by
    intro d
    induction d with
    | zero =>
      intro b v hb hv hi
      refine ⟨v, ?_, hv, hi.trans ⟨fun ⟨b', q1, q2⟩ => ⟨b', by omega, q2⟩, fun ⟨b', q1, q2⟩ => ⟨b', by omega, q2⟩⟩⟩
      rw [X174_6, h.1, if_neg (by omega), zgd_pos hv]
    | succ d ih =>
      intro b v hb hv hi
      have hbl : (b : Int) < S 2 := by omega
      obtain ⟨g3, g4, g5⟩ := hG.2.2.2 b hbl
      obtain ⟨b1, b2, b3⟩ := h.2.2.2 b hbl
      have u0 : zw (3 * (b : Int)) = 3 * (b : Int) := zw_id (by omega) (by omega)
      have u1 : zw (3 * (b : Int) + 1) = 3 * (b : Int) + 1 := zw_id (by omega) (by omega)
      have u2 : zw (3 * (b : Int) + 2) = 3 * (b : Int) + 2 := zw_id (by omega) (by omega)
      have m0 : (3 * (b : Int)).toNat = 3 * b := by omega
      have m1 : (3 * (b : Int) + 1).toNat = 3 * b + 1 := by omega
      have m2 : (3 * (b : Int) + 2).toNat = 3 * b + 2 := by omega
      have nx : zw ((b : Int) + 1) = ((b + 1 : Nat) : Int) := zw_nat1 (by omega)
      have ext : ∀ w : Int, (w = 0 ∨ w = 1) → (w = 1 ↔ (v = 1 ∨ Hit S (5 * j + o) t b)) → ∃ v', zE 174 6 [some (zI ((4 * j + o : Nat) : Int)), some (zI t), some (zR 9), some (zR 66), some (zR 68), some (zI w), some (zI ((b + 1 : Nat) : Int))] [] σ = zRI v' σ ∧ (v' = 0 ∨ v' = 1) ∧ (v' = 1 ↔ Hits S (5 * j + o) t) := fun w hw hi2 =>
        ih (b + 1) w (by omega) hw (hi2.trans ⟨fun q => q.elim (fun q => by
          obtain ⟨b', q1, q2⟩ := hi.mp q
          exact ⟨b', by omega, q2⟩) (fun q => ⟨b, by omega, q⟩), fun ⟨b', q1, q2⟩ => by
          by_cases e : b' = b
          · exact Or.inr (e ▸ q2)
          · exact Or.inl (hi.mpr ⟨b', by omega, q2⟩)⟩)
      rw [X174_6, h.1, if_pos hbl, u0, u1, u2, w0, w1, m0, m1, m2, n0, n1, nx, b1, b2, b3, a1, a2]
      rcases hv with hv | hv
      · subst hv
        rw [if_pos rfl, zgd_pos (by omega), zgd_pos (by omega)]
        by_cases c1 : bM S b = sM S (5 * j + o)
        · rw [if_pos c1, zgd_pos (by omega), zgd_pos (by omega), zw_id (x := bF S b + bL S b) (by omega) (by omega)]
          by_cases c2 : t < bF S b + bL S b
          · rw [if_pos c2, zgd_pos (by omega), zgd_pos (by omega), zw_id (x := t + sU S (5 * j + o)) (by omega) (by omega)]
            by_cases c3 : t + sU S (5 * j + o) ≤ bF S b
            · rw [if_pos c3]
              exact ext 0 (Or.inl rfl) ⟨fun q => absurd q (by decide), fun q => q.elim (fun q => absurd q (by decide)) (fun q => by have := q.2.2; omega)⟩
            · rw [if_neg c3]
              exact ext 1 (Or.inr rfl) ⟨fun _ => Or.inr ⟨c1, c2, by omega⟩, fun _ => rfl⟩
          · rw [if_neg c2]
            exact ext 0 (Or.inl rfl) ⟨fun q => absurd q (by decide), fun q => q.elim (fun q => absurd q (by decide)) (fun q => absurd q.2.1 c2)⟩
        · rw [if_neg c1]
          exact ext 0 (Or.inl rfl) ⟨fun q => absurd q (by decide), fun q => q.elim (fun q => absurd q (by decide)) (fun q => absurd q.1 c1)⟩
      · subst hv
        rw [if_neg (by decide)]
        exact ext 1 (Or.inr rfl) ⟨fun _ => Or.inl rfl, fun _ => rfl⟩
  obtain ⟨n, hn⟩ : ∃ n : Nat, (n : Int) = S 2 := ⟨(S 2).toNat, by omega⟩
  obtain ⟨v', e1, e2, e3⟩ := key n 0 0 (by omega) (Or.inl rfl) ⟨fun q => absurd q (by decide), fun ⟨b', q1, _⟩ => by omega⟩
  rw [X174_0]
  refine ⟨fun q => ?_, fun q => ?_⟩
  · have e1' := e3.mpr q
    subst e1'; exact e1
  · have e0 : v' = 0 := e2.elim id (fun w => absurd (e3.mp w) q)
    subst e0; exact e1
theorem t175 (h : Wst σ S) (h3 : L3 S) (hG : Good S) {j o : Nat} (hl : Live S j o) {f : Int} (hf : 0 ≤ f ∧ f ≤ 900000) : zE 175 0 [some (zI ((4 * j + o : Nat) : Int)), some (zI f), some (zR 9), some (zR 66), some (zR 68), none] [] σ = zRI (LstF S (5 * j + o) f) σ := by
  obtain ⟨h1, h2⟩ := lst_F hG (i := 5 * j + o) f
  have key : ∀ (d : Nat) (t : Int), f ≤ t → t + d = LstF S (5 * j + o) f → zE 175 3 [some (zI ((4 * j + o : Nat) : Int)), some (zI f), some (zR 9), some (zR 66), some (zR 68), some (zI t)] [] σ = zRI (LstF S (5 * j + o) f) σ := by
    intro d
    induction d with
    | zero =>
      intro t ht hd
      have e : t = LstF S (5 * j + o) f := by omega
      have hn : ¬ Hits S (5 * j + o) t := by rw [e]; exact h1.2.1
      rw [X175_3, (t174 h h3 hG hl (t := t) (by omega)).2 hn, zbI_some, if_pos rfl, e]
    | succ d ih =>
      intro t ht hd
      have hh : Hits S (5 * j + o) t := h1.2.2 t ht (by omega)
      rw [X175_3, (t174 h h3 hG hl (t := t) (by omega)).1 hh, zbI_some, if_neg i10, zw_id (x := t + 1) (by omega) (by omega)]
      exact ih (t + 1) (by omega) (by omega)
  rw [X175_0]
  exact key (LstF S (5 * j + o) f - f).toNat f (Int.le_refl _) (by have := h1.1; omega)
theorem t176 (h : Wst σ S) (h3 : L3 S) (hG : Good S) {j o : Nat} (hl : Live S j o) (rule : Int) : zE 176 0 [some (zI ((4 * j + o : Nat) : Int)), some (zI rule), some (zR 65), some (zR 66), none] [] σ = zRI (rk S rule j o + (if rule = 2 then 9 else 0)) σ := by
  obtain ⟨hj, ho⟩ := h3.j3 hl
  obtain ⟨q1, q2⟩ := e4 (j := j) ho
  obtain ⟨a1, a2, a3⟩ := h.2.1 j hj
  have g := hG.2.1 j hl.1
  have g4 := h3.2.2 j hj
  have w1 : zw (4 * ((4 * j + o : Nat) : Int) + 1) = 4 * ((4 * j + o : Nat) : Int) + 1 := zw_id (by omega) (by omega)
  have w0 : zw (4 * ((4 * j + o : Nat) : Int)) = 4 * ((4 * j + o : Nat) : Int) := zw_id (by omega) (by omega)
  have n1 : (4 * ((4 * j + o : Nat) : Int) + 1).toNat = 16 * j + 4 * o + 1 := by omega
  have u0 : zw (3 * (j : Int)) = 3 * (j : Int) := zw_id (by omega) (by omega)
  have u1 : zw (3 * (j : Int) + 1) = 3 * (j : Int) + 1 := zw_id (by omega) (by omega)
  have u2 : zw (3 * (j : Int) + 2) = 3 * (j : Int) + 2 := zw_id (by omega) (by omega)
  have m0 : (3 * (j : Int)).toNat = 3 * j := by omega
  have m1 : (3 * (j : Int) + 1).toNat = 3 * j + 1 := by omega
  have m2 : (3 * (j : Int) + 2).toNat = 3 * j + 2 := by omega
  rw [X176_0, zgd_pos (by omega), q1, q2, w0, w1, u0, u1, u2, n1, m0, m1, m2, a1, a2, a3, (h.2.2.1 j o hl).2]
  unfold rk
  by_cases c0 : rule = 0
  · rw [if_pos c0, if_pos c0, if_neg (show ¬ rule = 2 by omega), zgd_pos (by omega), Int.add_zero]
  rw [if_neg c0, if_neg c0]
  by_cases c1 : rule = 1
  · rw [if_pos c1, if_pos c1, if_neg (show ¬ rule = 2 by omega), zgd_pos (by omega), Int.add_zero]
  rw [if_neg c1, if_neg c1]
  by_cases c2 : rule = 2
  · rw [if_pos c2, if_pos c2, if_pos c2, zgd_pos (by omega), zw_id (by omega) (by omega), show 9 - rW S j = -(rW S j) + 9 by omega]
  · rw [if_neg c2, if_neg c2, if_neg c2, zgd_pos (by omega), zgd_pos (by omega), zw_id (by omega) (by omega), Int.add_zero]
/-- the place of the first operation of a job without a start -/
def nxL (S : Row) (j k : Nat) : Int := if k < nO S j then ((4 * j + k : Nat) : Int) else -1
theorem t177 (h : Wst σ S) (h3 : L3 S) (hG : Good S) (hp : Wpr σ S) {B : Int} (hB : PB S B) {j : Nat} (hj : j < 3) : zE 177 0 [some (zI (j : Int)), some (zR 65), some (zR 66), none] [] σ = zRI (nxL S j (nxt S j)) σ := by
  have g4 := h3.2.2 j hj
  have hjl : (j : Int) < S 1 := by rw [h3.1.2]; omega
  have g := (hG.2.1 j hjl).2.2
  have a3 := (h.2.1 j hj).2.2
  have u2 : zw (zw (3 * (j : Int)) + 2) = 3 * (j : Int) + 2 := by rw [zw_id (x := 3 * (j : Int)) (by omega) (by omega), zw_id (by omega) (by omega)]
  have m2 : (3 * (j : Int) + 2).toNat = 3 * j + 2 := by omega
  have w4 : zw (4 * (j : Int)) = 4 * (j : Int) := zw_id (by omega) (by omega)
  have w5 : zw (4 * (j : Int) + rO S j) = 4 * (j : Int) + rO S j := zw_id (by omega) (by omega)
  have key : ∀ (d o : Nat), o + d = nO S j → zE 177 4 [some (zI (j : Int)), some (zR 65), some (zR 66), some (zI ((4 * j + o : Nat) : Int))] [] σ = zRI (nxL S j (nxA S j d o)) σ := by
    intro d
    induction d with
    | zero =>
      intro o hd
      rw [X177_4, u2, m2, a3, w4, w5, zgd_pos (by omega), if_neg (by unfold nO at hd; omega)]
      show _ = zRI (nxL S j o) σ
      unfold nxL
      rw [if_neg (by omega)]
    | succ d ih =>
      intro o hd
      have hl : Live S j o := ⟨hjl, nO_lt.mp (by omega)⟩
      have hl2 := hl.2
      have g6 := hB j o hl
      have w6 : zw (zw (4 * ((4 * j + o : Nat) : Int)) + 3) = 4 * ((4 * j + o : Nat) : Int) + 3 := by rw [zw_id (x := 4 * ((4 * j + o : Nat) : Int)) (by omega) (by omega), zw_id (by omega) (by omega)]
      have n3 : (4 * ((4 * j + o : Nat) : Int) + 3).toNat = 16 * j + 4 * o + 3 := by omega
      rw [X177_4, u2, m2, a3, w4, w5, zgd_pos (by omega), if_pos (by omega), w6, n3, zgd_pos (by omega), hp j o hl]
      unfold nxA
      by_cases c : sP S (5 * j + o) = -1
      · rw [if_pos (by omega), if_pos c]
        unfold nxL
        rw [if_pos (by omega)]
      · rw [if_neg (by omega), if_neg c, zw_id (x := ((4 * j + o : Nat) : Int) + 1) (by omega) (by omega), show ((4 * j + o : Nat) : Int) + 1 = ((4 * j + (o + 1) : Nat) : Int) by omega]
        exact ih (o + 1) (by omega)
  rw [X177_0, w4]
  exact key (nO S j) 0 (by omega)
theorem t178 (h : Wst σ S) (h3 : L3 S) (hG : Good S) (hp : Wpr σ S) {B : Int} (hB : PB S B) (hB2 : 0 ≤ B ∧ B ≤ 800000) {j o : Nat} (hl : Live S j o) {moment : Int} (hm : 0 ≤ moment ∧ moment ≤ 800000) : zE 178 0 [some (zI ((4 * j + o : Nat) : Int)), some (zI moment), some (zR 9), some (zR 65), some (zR 66), some (zR 68), none, none] [] σ = zRI (er S j o moment) σ := by
  obtain ⟨hj, ho⟩ := h3.j3 hl
  obtain ⟨q1, q2⟩ := e4 (j := j) ho
  have hbe := bse_le hG hB hl (moment := moment)
  have hmx := bse_mx (S := S) (j := j) (o := o) (moment := moment)
  have w0 : zw (4 * ((4 * j + o : Nat) : Int)) = 4 * ((4 * j + o : Nat) : Int) := zw_id (by omega) (by omega)
  have n0 : (4 * ((4 * j + o : Nat) : Int)).toNat = 16 * j + 4 * o := by omega
  have loop : ∀ (d k : Nat) (t : Int), k + d = 12 → Mx (if o = 0 then moment else max moment (sP S (5 * j + (o - 1)) + sU S (5 * j + (o - 1)))) (fun x => ∃ j' o', 4 * j' + o' < k ∧ j' < nJ S ∧ o' < nO S j' ∧ (sM S (5 * j' + o') = sM S (5 * j + o) ∧ sP S (5 * j' + o') ≠ -1) ∧ x = sP S (5 * j' + o') + sU S (5 * j' + o')) t → zE 178 37 [some (zI ((4 * j + o : Nat) : Int)), some (zI moment), some (zR 9), some (zR 65), some (zR 66), some (zR 68), some (zI t), some (zI (k : Int))] [] σ = zRI (er S j o moment) σ := by
    intro d
    induction d with
    | zero =>
      intro k t hd ht
      have e : t = bse S j o moment := (ht.congr (fun x => ⟨fun ⟨j', o', _, a⟩ => ⟨j', o', a⟩, fun ⟨j', o', a1, a2, a3⟩ => ⟨j', o', by
        have := h3.j3 (liveN a1 a2)
        omega, a1, a2, a3⟩⟩)).uniq hmx
      rw [X178_37, if_neg (by omega), e, t175 h h3 hG hl (by omega), zbI_some]
      rfl
    | succ d ih =>
      intro k t hd ht
      obtain ⟨j', o', hk, ho4⟩ : ∃ j' o' : Nat, k = 4 * j' + o' ∧ o' < 4 := ⟨k / 4, k % 4, by omega, by omega⟩
      have hj3 : j' < 3 := by omega
      have nx : zw ((k : Int) + 1) = ((k + 1 : Nat) : Int) := zw_nat1 (by omega)
      have keep : ¬ (Live S j' o' ∧ sM S (5 * j' + o') = sM S (5 * j + o) ∧ sP S (5 * j' + o') ≠ -1) → zE 178 37 [some (zI ((4 * j + o : Nat) : Int)), some (zI moment), some (zR 9), some (zR 65), some (zR 66), some (zR 68), some (zI t), some (zI ((k + 1 : Nat) : Int))] [] σ = zRI (er S j o moment) σ := fun hn =>
        ih (k + 1) t (by omega) (ht.congr (fun x => ⟨fun ⟨a, b, c1, c2⟩ => ⟨a, b, by omega, c2⟩, fun ⟨a, b, c1, c2, c3, c4, c5⟩ => by
          have hlab := liveN c2 c3
          have hab := h3.j3 hlab
          by_cases e : a = j' ∧ b = o'
          · exact absurd ⟨e.1 ▸ e.2 ▸ hlab, by rw [← e.1, ← e.2]; exact c4.1, by rw [← e.1, ← e.2]; exact c4.2⟩ hn
          · exact ⟨a, b, by omega, c2, c3, c4, c5⟩⟩))
      have e172 := t172 h hj3 ho4
      rw [← hk] at e172
      rw [X178_37, if_pos (by omega), e172, zbI_some, nx]
      by_cases c1 : (o' : Int) < rO S j'
      · have hl' : Live S j' o' := h3.live hj3 c1
        have g5 := (hG.2.2.1 j' o' hl'.1 hl'.2).2
        have g6 := hB j' o' hl'
        have v0 : zw (4 * (k : Int)) = 4 * (k : Int) := zw_id (by omega) (by omega)
        have v3 : zw (4 * (k : Int) + 3) = 4 * (k : Int) + 3 := zw_id (by omega) (by omega)
        have m0 : (4 * (k : Int)).toNat = 16 * j' + 4 * o' := by omega
        have m3 : (4 * (k : Int) + 3).toNat = 16 * j' + 4 * o' + 3 := by omega
        rw [if_pos c1, if_neg i10, v0, w0, m0, n0, v3, m3, zgd_pos (by omega), zgd_pos (by omega), (h.2.2.1 j' o' hl').1, (h.2.2.1 j o hl).1]
        by_cases c2 : sM S (5 * j' + o') = sM S (5 * j + o)
        · rw [if_pos c2, zgd_pos (by omega), hp j' o' hl']
          by_cases c3 : sP S (5 * j' + o') = -1
          · rw [if_pos (by omega)]
            exact keep (fun q => q.2.2 c3)
          · have e173 := t173_3 h h3 hG hp hB hB2.2 hl'
            rw [← hk] at e173
            rw [if_neg (by omega), e173, zbI_some]
            have add : zE 178 37 [some (zI ((4 * j + o : Nat) : Int)), some (zI moment), some (zR 9), some (zR 65), some (zR 66), some (zR 68), some (zI (max t (sP S (5 * j' + o') + sU S (5 * j' + o')))), some (zI ((k + 1 : Nat) : Int))] [] σ = zRI (er S j o moment) σ :=
              ih (k + 1) _ (by omega) ((ht.add (t := sP S (5 * j' + o') + sU S (5 * j' + o'))).congr (fun x => ⟨fun q => q.elim (fun ⟨a, b, c1, c2⟩ => ⟨a, b, by omega, c2⟩) (fun q => ⟨j', o', by omega, nJ_lt.mpr hl'.1, nO_lt.mpr hl'.2, ⟨c2, c3⟩, q⟩), fun ⟨a, b, d1, d2, d3, d4, d5⟩ => by
                have hab := h3.j3 (liveN d2 d3)
                by_cases e : a = j' ∧ b = o'
                · exact Or.inr (by rw [d5, e.1, e.2])
                · exact Or.inl ⟨a, b, by omega, d2, d3, d4, d5⟩⟩))
            by_cases c4 : sP S (5 * j' + o') + sU S (5 * j' + o') ≤ t
            · rw [if_pos c4]
              rw [show max t (sP S (5 * j' + o') + sU S (5 * j' + o')) = t by omega] at add
              exact add
            · rw [if_neg c4, e173, zbI_some]
              rw [show max t (sP S (5 * j' + o') + sU S (5 * j' + o')) = sP S (5 * j' + o') + sU S (5 * j' + o') by omega] at add
              exact add
        · rw [if_neg c2]
          exact keep (fun q => c2 q.2.1)
      · rw [if_neg c1, if_pos rfl]
        exact keep (fun q => c1 q.1.2)
  have start : ∀ t, t = (if o = 0 then moment else max moment (sP S (5 * j + (o - 1)) + sU S (5 * j + (o - 1)))) → zE 178 37 [some (zI ((4 * j + o : Nat) : Int)), some (zI moment), some (zR 9), some (zR 65), some (zR 66), some (zR 68), some (zI t), some (zI 0)] [] σ = zRI (er S j o moment) σ := fun t ht =>
    loop 12 0 t rfl (by rw [ht]; exact Mx.nil (fun x ⟨a, b, q, _⟩ => by omega))
  rw [X178_0, zgd_pos (by omega), q2]
  by_cases c : o = 0
  · rw [if_pos (by omega)]
    exact start moment (by rw [if_pos c])
  · have hl' : Live S j (o - 1) := ⟨hl.1, by have := hl.2; omega⟩
    have e173 := t173_3 h h3 hG hp hB hB2.2 hl'
    have ew : zw (((4 * j + o : Nat) : Int) - 1) = ((4 * j + (o - 1) : Nat) : Int) := by rw [zw_id (by omega) (by omega)]; omega
    rw [if_neg (by omega), ew, e173, zbI_some]
    by_cases c4 : sP S (5 * j + (o - 1)) + sU S (5 * j + (o - 1)) ≤ moment
    · rw [if_pos c4]
      exact start moment (by rw [if_neg c]; omega)
    · rw [if_neg c4, e173, zbI_some]
      exact start _ (by rw [if_neg c]; omega)
end LAW
