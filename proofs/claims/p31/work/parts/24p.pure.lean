/-! ===== 24p: least starts are there; the fill, as rows alone ===== -/
theorem lst_ex {S : Row} (hG : Good S) {i : Nat} : ∀ (d : Nat) (f : Int), max f 550 - f ≤ d → ∃ t, Lst S i f t ∧ t ≤ max f 550 := by
  intro d
  induction d with
  | zero =>
    intro f hd
    refine ⟨f, ⟨Int.le_refl _, fun ⟨b, q1, q2⟩ => ?_, fun u a b => by omega⟩, by omega⟩
    obtain ⟨g1, g2, g3⟩ := hG.2.2.2 b q1
    have := q2.2.1
    omega
  | succ d ih =>
    intro f hd
    by_cases c : Hits S i f
    · obtain ⟨b, q1, q2⟩ := id c
      obtain ⟨g1, g2, g3⟩ := hG.2.2.2 b q1
      have h9 := q2.2.1
      obtain ⟨t, h1, h2⟩ := ih (f + 1) (by omega)
      refine ⟨t, ⟨by have := h1.1; omega, h1.2.1, fun u a b => ?_⟩, by omega⟩
      by_cases e : u = f
      · rw [e]; exact c
      · exact h1.2.2 u (by omega) b
    · exact ⟨f, ⟨Int.le_refl _, c, fun u a b => by omega⟩, by omega⟩
theorem lst_F {S : Row} (hG : Good S) {i : Nat} (f : Int) : Lst S i f (LstF S i f) ∧ LstF S i f ≤ max f 550 := by
  obtain ⟨t, h1, h2⟩ := lst_ex hG (i := i) (max f 550 - f).toNat f (by omega)
  rw [LstF_eq h1]
  exact ⟨h1, h2⟩
theorem er_lst {S : Row} (hG : Good S) {B : Int} (hB : PB S B) (hB2 : 0 ≤ B ∧ B ≤ 800000) {j o : Nat} (hl : Live S j o) {moment : Int} (hm : 0 ≤ moment ∧ moment ≤ 800000) : Lst S (5 * j + o) (bse S j o moment) (er S j o moment) ∧ er S j o moment ≤ max (max moment (B + 20)) 550 := by
  obtain ⟨h1, h2⟩ := lst_F hG (i := 5 * j + o) (bse S j o moment)
  have h3 := bse_le hG hB hl (moment := moment)
  refine ⟨h1, ?_⟩
  show LstF S (5 * j + o) (bse S j o moment) ≤ _
  omega
theorem bstO_some {S : Row} {rule moment : Int} {j : Nat} (hj : j < nJ S) (hlt : nxt S j < nO S j) : (bstO S rule moment).1 ≠ -1 := by
  have key : ∀ n, n ≤ nJ S → j < n → (f1 (fB S rule moment) n (-1, 0, 0)).1 ≠ -1 := by
    intro n
    induction n with
    | zero => intro _ h; omega
    | succ n ih2 =>
      intro h1 h2
      show (fB S rule moment n (f1 (fB S rule moment) n (-1, 0, 0))).1 ≠ -1
      by_cases hc : nxt S n < nO S n ∧ ((f1 (fB S rule moment) n (-1, 0, 0)).1 = -1 ∨ er S n (nxt S n) moment < (f1 (fB S rule moment) n (-1, 0, 0)).2.1 ∨ (er S n (nxt S n) moment = (f1 (fB S rule moment) n (-1, 0, 0)).2.1 ∧ rk S rule n (nxt S n) < (f1 (fB S rule moment) n (-1, 0, 0)).2.2))
      · rw [fB_pos hc]; show (n : Int) ≠ -1; omega
      · rw [fB_neg hc]
        by_cases e : j = n
        · subst e
          intro q
          exact hc ⟨hlt, Or.inl q⟩
        · exact ih2 (by omega) (by omega)
  exact key _ (Nat.le_refl _) hj
/-- what a step of the fill chooses -/
theorem bstO_pick {S : Row} (hG : Good S) {B : Int} (hB : PB S B) {rule moment : Int} (hm : 0 ≤ moment ∧ moment ≤ 800000) (hB2 : 0 ≤ B ∧ B ≤ 800000) (hx : (bstO S rule moment).1 ≠ -1) : ∃ j : Nat, (j : Int) < S 1 ∧ (bstO S rule moment).1 = (j : Int) ∧ nxt S j < nO S j ∧ (bstO S rule moment).2.1 = er S j (nxt S j) moment ∧ moment ≤ (bstO S rule moment).2.1 ∧ (bstO S rule moment).2.1 ≤ max (max moment (B + 20)) 550 ∧ Live S j (nxt S j) ∧ bse S j (nxt S j) moment ≤ (bstO S rule moment).2.1 := by
  rcases bstO_bst S rule moment with q | ⟨j, h1, h2, h3, h4, h5⟩
  · exact absurd q hx
  have hj := nJ_lt.mp h1
  have hl : Live S j (nxt S j) := ⟨hj, nO_lt.mp h3⟩
  obtain ⟨e1, e2⟩ := er_lst hG hB hB2 hl hm
  have e4 := (bse_le hG hB hl (moment := moment)).1
  have e5 := e1.1
  exact ⟨j, hj, h2, h3, h4, by omega, by omega, hl, by omega⟩
theorem pb_set {S : Row} (hG : Good S) {B v : Int} (hB : PB S B) {j o : Nat} (hl : Live S j o) (hv : -1 ≤ v ∧ v ≤ B + 20) : PB (setP S (5 * j + o) v) (B + 20) := by
  have hj6 := hG.j6 hl.1
  have ho5 := hG.o5 hl
  have st := setP_sta (S := S) (i := 5 * j + o) (v := v) (by omega)
  intro j' o' hl'
  rw [sP_set]
  by_cases c : 5 * j' + o' = 5 * j + o
  · rw [if_pos c]; omega
  · rw [if_neg c]
    have := hB j' o' ((st.sta.live hG j' o').mp hl')
    omega
theorem fillM_go {rule moment : Int} (hm : 0 ≤ moment ∧ moment ≤ 800000) : ∀ (n : Nat) (S : Row), Good S → cnt S ≤ n → ∀ B : Int, PB S B → moment ≤ B → 550 ≤ B → B + 20 * n ≤ 800000 → PB (fillM rule moment n S) (B + 20 * n) ∧ StaP S (fillM rule moment n S) ∧ ∀ j, j < nJ S → nxt (fillM rule moment n S) j = nO S j := by
  intro n
  induction n with
  | zero =>
    intro S hG hc B hB hB1 hB3 hB2
    exact ⟨fun j o hl => ⟨(hB j o hl).1, by have := (hB j o hl).2; show sP S _ ≤ _; omega⟩, StaP.rf _, cnt_0 (S := S) (by omega)⟩
  | succ n ih =>
    intro S hG hc B hB hB1 hB3 hB2
    have hfm : fillM rule moment (n + 1) S = if (bstO S rule moment).1 = -1 then S else fillM rule moment n (setP S (5 * (bstO S rule moment).1.toNat + nxt S (bstO S rule moment).1.toNat) (bstO S rule moment).2.1) := rfl
    by_cases hx : (bstO S rule moment).1 = -1
    · rw [hfm, if_pos hx]
      refine ⟨fun j o hl => ⟨(hB j o hl).1, by have := (hB j o hl).2; omega⟩, StaP.rf _, fun j hj => ?_⟩
      refine Decidable.byContradiction (fun hne => ?_)
      exact bstO_some hj (by have := (nxt_nx S j).1; omega) hx
    · obtain ⟨j, hj, h2, h3, h4, h5, h6, hl, h7⟩ := bstO_pick hG hB hm (by omega) hx
      have hj6 := hG.j6 hj
      have ho5 := hG.o5 hl
      have hun := (nxt_nx S j).2.2 h3
      have hjt : (bstO S rule moment).1.toNat = j := by omega
      rw [hfm, if_neg hx, hjt]
      have st := setP_sta (S := S) (i := 5 * j + nxt S j) (v := (bstO S rule moment).2.1) (by omega)
      have hcs := cnt_set hG hl hun (v := (bstO S rule moment).2.1) (by omega)
      obtain ⟨i1, i2, i3⟩ := ih (setP S (5 * j + nxt S j) (bstO S rule moment).2.1) (st.sta.good hG) (by omega) (B + 20) (pb_set hG hB hl (by omega)) (by omega) (by omega) (by omega)
      refine ⟨fun j' o' hl' => ?_, st.trans i2, fun j' hj' => ?_⟩
      · have q := i1 j' o' hl'
        omega
      · rw [i3 j' (by rw [st.sta.nj]; exact hj'), st.sta.no (hG.j6 (nJ_lt.mp hj'))]
theorem fillM_ok {S : Row} (hG : Good S) {B : Int} (hB : PB S B) {rule moment : Int} (hm : 0 ≤ moment ∧ moment ≤ B) (hB2 : 550 ≤ B ∧ B ≤ 700000) : PB (fillM rule moment 30 S) (B + 600) ∧ StaP S (fillM rule moment 30 S) ∧ ∀ j, j < nJ S → nxt (fillM rule moment 30 S) j = nO S j :=
  fillM_go (by omega) 30 S hG (cnt_le hG) B hB hm.2 hB2.1 (by omega)
/-- more steps than operations change nothing -/
theorem fillM_stab {rule moment : Int} (hm : 0 ≤ moment ∧ moment ≤ 800000) (k : Nat) : ∀ (n : Nat) (S : Row), Good S → cnt S ≤ n → ∀ B : Int, PB S B → moment ≤ B → 550 ≤ B → B + 20 * n ≤ 800000 → fillM rule moment (n + k) S = fillM rule moment n S := by
  intro n
  induction n with
  | zero =>
    intro S hG hc B hB hB1 hB3 hB2
    have hx := f1_none (rule := rule) (moment := moment) (cnt_0 (S := S) (by omega))
    cases k with
    | zero => rfl
    | succ k =>
      show fillM rule moment (0 + (k + 1)) S = S
      rw [show 0 + (k + 1) = k + 1 by omega]
      show (if (bstO S rule moment).1 = -1 then S else _) = S
      rw [if_pos hx]
  | succ n ih =>
    intro S hG hc B hB hB1 hB3 hB2
    rw [show n + 1 + k = (n + k) + 1 by omega]
    show (if (bstO S rule moment).1 = -1 then S else fillM rule moment (n + k) (setP S (5 * (bstO S rule moment).1.toNat + nxt S (bstO S rule moment).1.toNat) (bstO S rule moment).2.1)) = (if (bstO S rule moment).1 = -1 then S else fillM rule moment n (setP S (5 * (bstO S rule moment).1.toNat + nxt S (bstO S rule moment).1.toNat) (bstO S rule moment).2.1))
    by_cases hx : (bstO S rule moment).1 = -1
    · rw [if_pos hx, if_pos hx]
    · obtain ⟨j, hj, h2, h3, h4, h5, h6, hl, h7⟩ := bstO_pick hG hB hm (by omega) hx
      have hj6 := hG.j6 hj
      have ho5 := hG.o5 hl
      have hun := (nxt_nx S j).2.2 h3
      have hjt : (bstO S rule moment).1.toNat = j := by omega
      have st := setP_sta (S := S) (i := 5 * j + nxt S j) (v := (bstO S rule moment).2.1) (by omega)
      have hcs := cnt_set hG hl hun (v := (bstO S rule moment).2.1) (by omega)
      rw [if_neg hx, if_neg hx, hjt]
      exact ih _ (st.sta.good hG) (by omega) (B + 20) (pb_set hG hB hl (by omega)) (by omega) (by omega) (by omega)
