/-! ===== 24: the model's fill comes to fillM ===== -/
theorem er_eq {S : Row} {j o : Nat} {moment t : Int} (h : Lst S (5 * j + o) (bse S j o moment) t) : er S j o moment = t := LstF_eq h
theorem fB_pos {S : Row} {rule moment : Int} {j : Nat} {a : Int × Int × Int} (hc : nxt S j < nO S j ∧ (a.1 = -1 ∨ er S j (nxt S j) moment < a.2.1 ∨ (er S j (nxt S j) moment = a.2.1 ∧ rk S rule j (nxt S j) < a.2.2))) : fB S rule moment j a = ((j : Int), er S j (nxt S j) moment, rk S rule j (nxt S j)) := by
  unfold fB; rw [if_pos hc]
theorem fB_neg {S : Row} {rule moment : Int} {j : Nat} {a : Int × Int × Int} (hc : ¬ (nxt S j < nO S j ∧ (a.1 = -1 ∨ er S j (nxt S j) moment < a.2.1 ∨ (er S j (nxt S j) moment = a.2.1 ∧ rk S rule j (nxt S j) < a.2.2)))) : fB S rule moment j a = a := by
  unfold fB; rw [if_neg hc]
theorem s64_in {σ : zSt} (hG : Good (σ 65)) {B : Int} (hB : PB (σ 65) B) (hB2 : 0 ≤ B ∧ B ≤ 800000) {rule moment : Int} (hm : 0 ≤ moment ∧ moment ≤ 800000) {j : Nat} (hj : (j : Int) < σ 65 1) (b s r : Int) (o7 o8 o9 o10 : Option zVal) :
    ∃ d7 d8 d9 d10, zE 64 18 [some (zR 9), some (zI rule), some (zI moment), some (zI b), some (zI s), some (zI r), some (zI (j : Int)), o7, o8, o9, o10] [] σ = zE 64 18 [some (zR 9), some (zI rule), some (zI moment), some (zI (fB (σ 65) rule moment j (b, s, r)).1), some (zI (fB (σ 65) rule moment j (b, s, r)).2.1), some (zI (fB (σ 65) rule moment j (b, s, r)).2.2), some (zI ((j + 1 : Nat) : Int)), d7, d8, d9, d10] [] σ := by
  have hj6 := hG.j6 hj
  have hn := nxt_nx (σ 65) j
  have w1 : zw ((j : Int) + 1) = ((j + 1 : Nat) : Int) := zw_nat1 (by omega)
  rw [X64_18, if_pos hj, s61 hG hj, zbI_some, s42_2 hj6, zbI_some]
  by_cases hlt : nxt (σ 65) j < nO (σ 65) j
  · have hl : Live (σ 65) j (nxt (σ 65) j) := ⟨hj, nO_lt.mp hlt⟩
    obtain ⟨e1, e2, e3⟩ := s62 hG hB hB2 hl hm
    rw [if_pos (nO_lt.mp hlt), e1, zbI_some, s63 hG hl, zbI_some, X64_102, X64_115, X64_128, w1]
    by_cases hp : b = -1 ∨ er (σ 65) j (nxt (σ 65) j) moment < s ∨ (er (σ 65) j (nxt (σ 65) j) moment = s ∧ rk (σ 65) rule j (nxt (σ 65) j) < r)
    · have hv : (if b = (-1) then 1 else (if er (σ 65) j (nxt (σ 65) j) moment < s then 1 else (if er (σ 65) j (nxt (σ 65) j) moment = s then (if rk (σ 65) rule j (nxt (σ 65) j) < r then 1 else 0 : Int) else 0 : Int) : Int) : Int) = 1 := by
        rcases hp with q | q | ⟨q1, q2⟩
        · rw [if_pos q]
        · by_cases c : b = -1
          · rw [if_pos c]
          · rw [if_neg c, if_pos q]
        · by_cases c : b = -1
          · rw [if_pos c]
          · rw [if_neg c, if_neg (by omega), if_pos q1, if_pos q2]
      have e9 : fB (σ 65) rule moment j (b, s, r) = ((j : Int), er (σ 65) j (nxt (σ 65) j) moment, rk (σ 65) rule j (nxt (σ 65) j)) := fB_pos ⟨hlt, hp⟩
      rw [e9, hv, if_neg (by decide), if_neg (by decide), if_neg (by decide)]
      exact ⟨_, _, _, _, rfl⟩
    · have hv : (if b = (-1) then 1 else (if er (σ 65) j (nxt (σ 65) j) moment < s then 1 else (if er (σ 65) j (nxt (σ 65) j) moment = s then (if rk (σ 65) rule j (nxt (σ 65) j) < r then 1 else 0 : Int) else 0 : Int) : Int) : Int) = 0 := by
        rw [if_neg (fun q => hp (Or.inl q)), if_neg (fun q => hp (Or.inr (Or.inl q)))]
        by_cases c : er (σ 65) j (nxt (σ 65) j) moment = s
        · rw [if_pos c, if_neg (fun q => hp (Or.inr (Or.inr ⟨c, q⟩)))]
        · rw [if_neg c]
      have e9 : fB (σ 65) rule moment j (b, s, r) = (b, s, r) := fB_neg (fun q => hp q.2)
      rw [e9, hv, if_pos rfl, if_pos rfl, if_pos rfl]
      exact ⟨_, _, _, _, rfl⟩
  · have e9 : fB (σ 65) rule moment j (b, s, r) = (b, s, r) := fB_neg (fun q => hlt q.1)
    rw [if_neg (fun q => hlt (nO_lt.mpr q)), w1, e9]
    exact ⟨_, _, _, _, rfl⟩
theorem s64_go {rule moment : Int} (hm : 0 ≤ moment ∧ moment ≤ 800000) : ∀ (n : Nat) (σ : zSt), Good (σ 65) → cnt (σ 65) ≤ n → ∀ B : Int, PB (σ 65) B → moment ≤ B → 550 ≤ B → B + 20 * n ≤ 800000 → ∀ (b : Int) (o4 o5 o6 o7 o8 o9 o10 : Option zVal), b ≠ -1 →
    zE 64 2 [some (zR 9), some (zI rule), some (zI moment), some (zI b), o4, o5, o6, o7, o8, o9, o10] [] σ = zRV (zset σ 65 (fillM rule moment n (σ 65))) ∧ PB (fillM rule moment n (σ 65)) (B + 20 * n) ∧ StaP (σ 65) (fillM rule moment n (σ 65)) ∧ ∀ j, j < nJ (σ 65) → nxt (fillM rule moment n (σ 65)) j = nO (σ 65) j := by
  intro n
  induction n with
  | zero =>
    intro σ hG hc B hB hB1 hB3 hB2 b o4 o5 o6 o7 o8 o9 o10 hb
    have hall := cnt_0 (S := σ 65) (by omega)
    have hbo := f1_none (rule := rule) (moment := moment) hall
    refine ⟨?_, fun j o hl => ⟨(hB j o hl).1, by have := (hB j o hl).2; show sP (σ 65) _ ≤ _; omega⟩, StaP.rf _, hall⟩
    rw [X64_2, if_neg hb]
    have loop := (zloop1 (D := Option zVal × Option zVal × Option zVal × Option zVal) (nJ (σ 65)) (fB (σ 65) rule moment) (fun j a d => zE 64 18 [some (zR 9), some (zI rule), some (zI moment), some (zI a.1), some (zI a.2.1), some (zI a.2.2), some (zI (j : Int)), d.1, d.2.1, d.2.2.1, d.2.2.2] [] σ)
      (fun a => if a.1 = -1 then zRV σ else none) (fun j a => a.1 = -1) ?_ ?_ (-1, 0, 0) (o7, o8, o9, o10) rfl).1
    · refine Eq.trans loop ?_
      show (if (bstO (σ 65) rule moment).1 = -1 then zRV σ else none) = _
      rw [if_pos hbo]
      show zRV σ = zRV (zset σ 65 (σ 65))
      rw [zset_self]
    · intro j a d hj ha
      obtain ⟨d7, d8, d9, d10, h⟩ := s64_in hG hB (by omega) (rule := rule) hm (nJ_lt.mp hj) a.1 a.2.1 a.2.2 d.1 d.2.1 d.2.2.1 d.2.2.2
      refine ⟨⟨(d7, d8, d9, d10), h⟩, ?_⟩
      rw [fB_neg (fun q => by have := hall j hj; omega)]
      exact ha
    · intro a d ha
      show zE 64 18 [some (zR 9), some (zI rule), some (zI moment), some (zI a.1), some (zI a.2.1), some (zI a.2.2), some (zI ((nJ (σ 65) : Nat) : Int)), d.1, d.2.1, d.2.2.1, d.2.2.2] [] σ = _
      rw [X64_18, if_neg (by unfold nJ; omega), if_pos ha, if_pos ha, X64_2, if_pos ha]
  | succ n ih =>
    intro σ hG hc B hB hB1 hB3 hB2 b o4 o5 o6 o7 o8 o9 o10 hb
    have hbst := bstO_bst (σ 65) rule moment
    have hfm : fillM rule moment (n + 1) (σ 65) = if (bstO (σ 65) rule moment).1 = -1 then σ 65 else fillM rule moment n (setP (σ 65) (5 * (bstO (σ 65) rule moment).1.toNat + nxt (σ 65) (bstO (σ 65) rule moment).1.toNat) (bstO (σ 65) rule moment).2.1) := rfl
    have loop : ∀ X, ((bstO (σ 65) rule moment).1 = -1 → X = zRV σ) → ((bstO (σ 65) rule moment).1 ≠ -1 → ∀ (o7 o8 o9 o10 : Option zVal), zE 64 18 [some (zR 9), some (zI rule), some (zI moment), some (zI (bstO (σ 65) rule moment).1), some (zI (bstO (σ 65) rule moment).2.1), some (zI (bstO (σ 65) rule moment).2.2), some (zI ((nJ (σ 65) : Nat) : Int)), o7, o8, o9, o10] [] σ = X) → zE 64 18 [some (zR 9), some (zI rule), some (zI moment), some (zI (-1)), some (zI 0), some (zI 0), some (zI 0), o7, o8, o9, o10] [] σ = X := by
      intro X h1 h2
      refine ((zloop1 (D := Option zVal × Option zVal × Option zVal × Option zVal) (nJ (σ 65)) (fB (σ 65) rule moment) (fun j a d => zE 64 18 [some (zR 9), some (zI rule), some (zI moment), some (zI a.1), some (zI a.2.1), some (zI a.2.2), some (zI (j : Int)), d.1, d.2.1, d.2.2.1, d.2.2.2] [] σ)
        (fun a => X) (fun j a => a = f1 (fB (σ 65) rule moment) j (-1, 0, 0)) ?_ ?_ (-1, 0, 0) (o7, o8, o9, o10) rfl).1)
      · intro j a d hj ha
        obtain ⟨d7, d8, d9, d10, h⟩ := s64_in hG hB (by omega) (rule := rule) hm (nJ_lt.mp hj) a.1 a.2.1 a.2.2 d.1 d.2.1 d.2.2.1 d.2.2.2
        exact ⟨⟨(d7, d8, d9, d10), h⟩, by rw [ha]; rfl⟩
      · intro a d ha
        have ha2 : a = bstO (σ 65) rule moment := ha
        subst ha2
        by_cases hx : (bstO (σ 65) rule moment).1 = -1
        · rw [h1 hx]
          show zE 64 18 [some (zR 9), some (zI rule), some (zI moment), some (zI (bstO (σ 65) rule moment).1), some (zI (bstO (σ 65) rule moment).2.1), some (zI (bstO (σ 65) rule moment).2.2), some (zI ((nJ (σ 65) : Nat) : Int)), d.1, d.2.1, d.2.2.1, d.2.2.2] [] σ = _
          rw [X64_18, if_neg (by unfold nJ; omega), if_pos hx, X64_2, if_pos hx]
        · exact h2 hx d.1 d.2.1 d.2.2.1 d.2.2.2
    rw [X64_2, if_neg hb]
    by_cases hx : (bstO (σ 65) rule moment).1 = -1
    · rw [hfm, if_pos hx]
      refine ⟨loop _ (fun _ => by rw [zset_self]) (fun q => absurd hx q), fun j o hl => ⟨(hB j o hl).1, by have := (hB j o hl).2; omega⟩, StaP.rf _, ?_⟩
      intro j hj
      refine Decidable.byContradiction (fun hne => ?_)
      have hlt : nxt (σ 65) j < nO (σ 65) j := by have := (nxt_nx (σ 65) j).1; omega
      have key : ∀ n, n ≤ nJ (σ 65) → j < n → (f1 (fB (σ 65) rule moment) n (-1, 0, 0)).1 ≠ -1 := by
        intro n
        induction n with
        | zero => intro _ h; omega
        | succ n ih2 =>
          intro h1 h2
          show (fB (σ 65) rule moment n (f1 (fB (σ 65) rule moment) n (-1, 0, 0))).1 ≠ -1
          by_cases hc : nxt (σ 65) n < nO (σ 65) n ∧ ((f1 (fB (σ 65) rule moment) n (-1, 0, 0)).1 = -1 ∨ er (σ 65) n (nxt (σ 65) n) moment < (f1 (fB (σ 65) rule moment) n (-1, 0, 0)).2.1 ∨ (er (σ 65) n (nxt (σ 65) n) moment = (f1 (fB (σ 65) rule moment) n (-1, 0, 0)).2.1 ∧ rk (σ 65) rule n (nxt (σ 65) n) < (f1 (fB (σ 65) rule moment) n (-1, 0, 0)).2.2))
          · rw [fB_pos hc]; show (n : Int) ≠ -1; omega
          · rw [fB_neg hc]
            by_cases e : j = n
            · subst e
              intro q
              exact hc ⟨hlt, Or.inl q⟩
            · exact ih2 (by omega) (by omega)
      exact key _ (Nat.le_refl _) hj hx
    · rcases hbst with q | ⟨j, h1, h2, h3, h4, h5⟩
      · exact absurd q hx
      have hj := nJ_lt.mp h1
      have hj6 := hG.j6 hj
      have hl : Live (σ 65) j (nxt (σ 65) j) := ⟨hj, nO_lt.mp h3⟩
      have ho5 := hG.o5 hl
      have hun := (nxt_nx (σ 65) j).2.2 h3
      obtain ⟨e1, e2, e3⟩ := s62 hG hB (by omega) hl hm
      have e4 := (bse_le hG hB hl (moment := moment)).1
      have e5 := e2.1
      have hjt : (bstO (σ 65) rule moment).1.toNat = j := by omega
      rw [hfm, if_neg hx, hjt]
      have st := setP_sta (S := σ 65) (i := 5 * j + nxt (σ 65) j) (v := (bstO (σ 65) rule moment).2.1) (by omega)
      have hσ' : (zset σ 65 (setP (σ 65) (5 * j + nxt (σ 65) j) (bstO (σ 65) rule moment).2.1)) 65 = setP (σ 65) (5 * j + nxt (σ 65) j) (bstO (σ 65) rule moment).2.1 := zset_at _ _ _
      have hcs := cnt_set hG hl hun (v := (bstO (σ 65) rule moment).2.1) (by omega)
      have hpb : PB (setP (σ 65) (5 * j + nxt (σ 65) j) (bstO (σ 65) rule moment).2.1) (B + 20) := by
        intro j' o' hl'
        rw [sP_set]
        by_cases c : 5 * j' + o' = 5 * j + nxt (σ 65) j
        · rw [if_pos c]; omega
        · rw [if_neg c]
          have := hB j' o' ((st.sta.live hG j' o').mp hl')
          omega
      have ihx := ih (zset σ 65 (setP (σ 65) (5 * j + nxt (σ 65) j) (bstO (σ 65) rule moment).2.1)) (by rw [hσ']; exact st.sta.good hG) (by rw [hσ']; omega) (B + 20) (by rw [hσ']; exact hpb) (by omega) (by omega) (by omega)
      rw [hσ'] at ihx
      refine ⟨?_, ?_, ?_, ?_⟩
      · refine loop _ (fun q => absurd q hx) (fun _ o7' o8' o9' o10' => ?_)
        rw [X64_18, if_neg (by unfold nJ; omega), if_neg hx, h2, s61 hG hj, zbI_some, s43 hj6 ho5, zbI_some, zw_id (by omega) (by omega), zgd_pos (by omega)]
        have e7 : (((23 + 4 * (5 * j + nxt (σ 65) j) : Nat) : Int) + 3).toNat = 26 + 4 * (5 * j + nxt (σ 65) j) := by omega
        rw [e7, zup_set]
        have := (ihx (j : Int) (some (zI (bstO (σ 65) rule moment).2.1)) (some (zI (bstO (σ 65) rule moment).2.2)) (some (zI ((nJ (σ 65) : Nat) : Int))) o7' o8' o9' o10' (by omega)).1
        rw [zset_set] at this
        exact this
      · have := (ihx (j : Int) none none none none none none none (by omega)).2.1
        intro j' o' hl'
        have q := this j' o' hl'
        omega
      · exact st.trans (ihx (j : Int) none none none none none none none (by omega)).2.2.1
      · intro j' hj'
        have := (ihx (j : Int) none none none none none none none (by omega)).2.2.2 j' (by rw [st.sta.nj]; exact hj')
        rw [this, st.sta.no (hG.j6 (nJ_lt.mp hj'))]
/-- the model's fill -/
theorem s64 {σ : zSt} (hG : Good (σ 65)) {B : Int} (hB : PB (σ 65) B) {rule moment : Int} (hm : 0 ≤ moment ∧ moment ≤ B) (hB2 : 550 ≤ B ∧ B ≤ 700000) : zE 64 0 [some (zR 9), some (zI rule), some (zI moment), none, none, none, none, none, none, none, none] [] σ = zRV (zset σ 65 (fillM rule moment 30 (σ 65))) := by
  rw [X64_0]
  exact (s64_go (by omega) 30 σ hG (cnt_le hG) B hB hm.2 hB2.1 (by omega) 0 none none none none none none none (by decide)).1
theorem fillM_ok {S : Row} (hG : Good S) {B : Int} (hB : PB S B) {rule moment : Int} (hm : 0 ≤ moment ∧ moment ≤ B) (hB2 : 550 ≤ B ∧ B ≤ 700000) : PB (fillM rule moment 30 S) (B + 600) ∧ StaP S (fillM rule moment 30 S) ∧ ∀ j, j < nJ S → nxt (fillM rule moment 30 S) j = nO S j := by
  have h := s64_go (rule := rule) (moment := moment) (by omega) 30 (zset (fun _ _ => 0) 65 S) (by rw [zset_at]; exact hG) (by rw [zset_at]; exact cnt_le hG) B (by rw [zset_at]; exact hB) hm.2 hB2.1 (by omega) 0 none none none none none none none (by decide)
  rw [zset_at] at h
  exact h.2
