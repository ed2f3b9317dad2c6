/-! ===== 22: the model's fill ===== -/
theorem nJ_lt {S : Row} {j : Nat} : j < nJ S ↔ (j : Int) < S 1 := by unfold nJ; omega
theorem nO_lt {S : Row} {j o : Nat} : o < nO S j ↔ (o : Int) < rO S j := by unfold nO; omega
theorem liveN {S : Row} {j o : Nat} (hj : j < nJ S) (ho : o < nO S j) : Live S j o := ⟨nJ_lt.mp hj, nO_lt.mp ho⟩
theorem fJ_rel {α β : Type} {no : Nat → Nat} {f : Nat → Nat → α → α} {g : Nat → Nat → β → β} (n : Nat) (a : α) (b : β) (P : Nat → Nat → α → β → Prop) (h0 : P 0 0 a b) (h1 : ∀ j o a b, j < n → o < no j → P j o a b → P j (o + 1) (f j o a) (g j o b)) (h2 : ∀ j a b, j < n → P j (no j) a b → P (j + 1) 0 a b) : P n 0 (fJ no f n a) (fJ no g n b) := by
  have inner : ∀ j, j < n → ∀ a b, P j 0 a b → ∀ o, o ≤ no j → P j o (fO f j o a) (fO g j o b) := by
    intro j hj a b hi o
    induction o with
    | zero => intro _; exact hi
    | succ o ih => intro ho; exact h1 j o _ _ hj (by omega) (ih (by omega))
  have outer : ∀ j, j ≤ n → P j 0 (fJ no f j a) (fJ no g j b) := by
    intro j
    induction j with
    | zero => intro _; exact h0
    | succ j ih => intro hj; exact h2 j _ _ (by omega) (inner j (by omega) _ _ (ih (by omega)) (no j) (Nat.le_refl _))
  exact outer n (Nat.le_refl _)
/-- the present starts are within bounds -/
def PB (S : Row) (B : Int) : Prop := ∀ j o, Live S j o → -1 ≤ sP S (5 * j + o) ∧ sP S (5 * j + o) ≤ B
/-- over the operations on the machine of slot i that have a start -/
def fE (S : Row) (i : Nat) (j o : Nat) (a : Int) : Int := if sM S (5 * j + o) = sM S i ∧ sP S (5 * j + o) ≠ -1 then max a (sP S (5 * j + o) + sU S (5 * j + o)) else a
def bse (S : Row) (j o : Nat) (moment : Int) : Int := fA S (fE S (5 * j + o)) (if o = 0 then moment else max moment (sP S (5 * j + (o - 1)) + sU S (5 * j + (o - 1))))
noncomputable def er (S : Row) (j o : Nat) (moment : Int) : Int := LstF S (5 * j + o) (bse S j o moment)
/-- what the base is the greatest of -/
theorem bse_mx {S : Row} {j o : Nat} {moment : Int} : Mx (if o = 0 then moment else max moment (sP S (5 * j + (o - 1)) + sU S (5 * j + (o - 1)))) (fun t => ∃ j' o', j' < nJ S ∧ o' < nO S j' ∧ (sM S (5 * j' + o') = sM S (5 * j + o) ∧ sP S (5 * j' + o') ≠ -1) ∧ t = sP S (5 * j' + o') + sU S (5 * j' + o')) (bse S j o moment) := by
  unfold bse fA
  refine fJ_max (fun j' o' a _ _ => ⟨fun h => ?_, fun h => ?_⟩)
  · unfold fE; rw [if_pos h]
  · unfold fE; rw [if_neg h]
theorem bse_le {S : Row} {B : Int} (hG : Good S) (hB : PB S B) {j o : Nat} (hl : Live S j o) {moment : Int} : moment ≤ bse S j o moment ∧ bse S j o moment ≤ max moment (B + 20) := by
  have h := bse_mx (S := S) (j := j) (o := o) (moment := moment)
  have h0 : moment ≤ (if o = 0 then moment else max moment (sP S (5 * j + (o - 1)) + sU S (5 * j + (o - 1)))) ∧ (if o = 0 then moment else max moment (sP S (5 * j + (o - 1)) + sU S (5 * j + (o - 1)))) ≤ max moment (B + 20) := by
    by_cases ho : o = 0
    · rw [if_pos ho]; omega
    · rw [if_neg ho]
      have hl2 : Live S j (o - 1) := ⟨hl.1, by have := hl.2; omega⟩
      have h1 := hB j (o - 1) hl2
      have h2 := (hG.2.2.1 j (o - 1) hl2.1 hl2.2).2
      omega
  refine ⟨by have := h.1; omega, ?_⟩
  rcases h.2.2 with q | ⟨j', o', q1, q2, q3, q4⟩
  · rw [q]; exact h0.2
  · rw [q4]
    have hl2 := liveN q1 q2
    have h1 := hB j' o' hl2
    have h2 := (hG.2.2.1 j' o' hl2.1 hl2.2).2
    omega
theorem s62 {σ : zSt} (hG : Good (σ 65)) {B : Int} (hB : PB (σ 65) B) (hB2 : 0 ≤ B ∧ B ≤ 800000) {j o : Nat} (hl : Live (σ 65) j o) {moment : Int} (hm : 0 ≤ moment ∧ moment ≤ 800000) : zE 62 0 [some (zR 9), some (zI j), some (zI o), some (zI moment), none, none, none, none] [] σ = zRI (er (σ 65) j o moment) σ ∧ Lst (σ 65) (5 * j + o) (bse (σ 65) j o moment) (er (σ 65) j o moment) ∧ er (σ 65) j o moment ≤ max (max moment (B + 20)) 550 := by
  have hj := hG.j6 hl.1
  have ho := hG.o5 hl
  have hbl := bse_le hG hB hl (moment := moment)
  obtain ⟨t, ht1, ht2, ht3⟩ := s59 hG hl (f := bse (σ 65) j o moment) (by omega)
  have hte : er (σ 65) j o moment = t := LstF_eq ht2
  rw [hte]
  refine ⟨?_, ht2, by omega⟩
  have loop := (zloop2 (D := Option zVal × Option zVal) (E := Option zVal) (nJ (σ 65)) (nO (σ 65)) (fE (σ 65) (5 * j + o))
    (fun j' a d => zE 62 35 [some (zR 9), some (zI j), some (zI o), some (zI moment), some (zI a), some (zI (j' : Int)), d.1, d.2] [] σ)
    (fun j' o' a e => zE 62 49 [some (zR 9), some (zI j), some (zI o), some (zI moment), some (zI a), some (zI (j' : Int)), some (zI (o' : Int)), e] [] σ)
    (fun a => zbI (zE 59 0 [some (zR 9), some (zI j), some (zI o), some (zI a), none, none] [] σ) fun r1 σ1 => (some (.inl (some (zI r1), σ1))))
    (fun _ _ _ => True) ?_ ?_ ?_ ?_ (if o = 0 then moment else max moment (sP (σ 65) (5 * j + (o - 1)) + sU (σ 65) (5 * j + (o - 1)))) (none, none) trivial).1
  · have e : fJ (nO (σ 65)) (fE (σ 65) (5 * j + o)) (nJ (σ 65)) (if o = 0 then moment else max moment (sP (σ 65) (5 * j + (o - 1)) + sU (σ 65) (5 * j + (o - 1)))) = bse (σ 65) j o moment := rfl
    rw [e, ht1, zbI_some] at loop
    refine Eq.trans ?_ loop
    rw [X62_0]
    by_cases h0 : o = 0
    · subst h0
      rw [if_pos (by decide), if_pos rfl]
      rfl
    · have hl2 : Live (σ 65) j (o - 1) := ⟨hl.1, by have := hl.2; omega⟩
      have h1 := hB j (o - 1) hl2
      have h2 := (hG.2.2.1 j (o - 1) hl2.1 hl2.2).2
      rw [if_neg (by omega), if_neg h0, show zw ((o : Int) - 1) = ((o - 1 : Nat) : Int) by rw [zw_id (by omega) (by omega)]; omega, s60_3 hj (by omega), zbI_some, zw_id (by omega) (by omega)]
      by_cases c : sP (σ 65) (5 * j + (o - 1)) + sU (σ 65) (5 * j + (o - 1)) ≤ moment
      · rw [if_pos c, show max moment (sP (σ 65) (5 * j + (o - 1)) + sU (σ 65) (5 * j + (o - 1))) = moment by omega]
        rfl
      · rw [if_neg c, s60_3 hj (by omega), zbI_some, zw_id (by omega) (by omega), show max moment (sP (σ 65) (5 * j + (o - 1)) + sU (σ 65) (5 * j + (o - 1))) = sP (σ 65) (5 * j + (o - 1)) + sU (σ 65) (5 * j + (o - 1)) by omega]
        rfl
  · intro j' a d hj' _
    refine ⟨d.2, ?_⟩
    rw [X62_35, if_pos (nJ_lt.mp hj')]
    rfl
  · intro j' o' a e hj' ho' _
    have hl' := liveN hj' ho'
    have hj6 := hG.j6 hl'.1
    have ho5 := hG.o5 hl'
    have h1 := hB j' o' hl'
    have h2 := (hG.2.2.1 j' o' hl'.1 hl'.2).2
    refine ⟨?_, trivial⟩
    have w1 : zw ((o' : Int) + 1) = ((o' + 1 : Nat) : Int) := zw_nat1 (by omega)
    show ∃ e', zE 62 49 [some (zR 9), some (zI j), some (zI o), some (zI moment), some (zI a), some (zI (j' : Int)), some (zI (o' : Int)), e] [] σ = zE 62 49 [some (zR 9), some (zI j), some (zI o), some (zI moment), some (zI (fE (σ 65) (5 * j + o) j' o' a)), some (zI (j' : Int)), some (zI ((o' + 1 : Nat) : Int)), e'] [] σ
    rw [X62_49, s42_2 hj6, zbI_some, if_pos (nO_lt.mp ho'), s44_0 hj6 ho5, zbI_some, s44_0 hj ho, zbI_some]
    by_cases c1 : sM (σ 65) (5 * j' + o') = sM (σ 65) (5 * j + o)
    · rw [if_pos c1, s44_3 hj6 ho5, zbI_some, X62_98]
      by_cases c2 : sP (σ 65) (5 * j' + o') = -1
      · have e9 : fE (σ 65) (5 * j + o) j' o' a = a := by unfold fE; rw [if_neg (fun q => q.2 c2)]
        rw [e9, if_pos (if_pos c2), w1]
        exact ⟨_, rfl⟩
      · have e9 : fE (σ 65) (5 * j + o) j' o' a = max a (sP (σ 65) (5 * j' + o') + sU (σ 65) (5 * j' + o')) := by unfold fE; rw [if_pos ⟨c1, c2⟩]
        have n1 : ¬ (if sP (σ 65) (5 * j' + o') = -1 then (0 : Int) else 1) = 0 := by rw [if_neg c2]; decide
        rw [e9, if_neg n1, s60_3 hj6 ho5, zbI_some, zw_id (by omega) (by omega)]
        by_cases c3 : sP (σ 65) (5 * j' + o') + sU (σ 65) (5 * j' + o') ≤ a
        · rw [if_pos c3, w1, show max a (sP (σ 65) (5 * j' + o') + sU (σ 65) (5 * j' + o')) = a by omega]
          exact ⟨_, rfl⟩
        · rw [if_neg c3, s60_3 hj6 ho5, zbI_some, zw_id (by omega) (by omega), w1, show max a (sP (σ 65) (5 * j' + o') + sU (σ 65) (5 * j' + o')) = sP (σ 65) (5 * j' + o') + sU (σ 65) (5 * j' + o') by omega]
          exact ⟨_, rfl⟩
    · have e9 : fE (σ 65) (5 * j + o) j' o' a = a := by unfold fE; rw [if_neg (fun q => c1 q.1)]
      rw [e9, if_neg c1, X62_97, X62_98, if_pos rfl, w1]
      exact ⟨_, rfl⟩
  · intro j' a e hj' _
    have hj6 : j' < 6 := hG.j6 (nJ_lt.mp hj')
    refine ⟨⟨(some (zI ((nO (σ 65) j' : Nat) : Int)), e), ?_⟩, trivial⟩
    show zE 62 49 [some (zR 9), some (zI j), some (zI o), some (zI moment), some (zI a), some (zI (j' : Int)), some (zI ((nO (σ 65) j' : Nat) : Int)), e] [] σ = _
    rw [X62_49, s42_2 hj6, zbI_some, if_neg (by unfold nO; omega), zw_nat1 (by omega)]
  · intro a d _
    show zE 62 35 [some (zR 9), some (zI j), some (zI o), some (zI moment), some (zI a), some (zI ((nJ (σ 65) : Nat) : Int)), d.1, d.2] [] σ = _
    rw [X62_35, if_neg (by unfold nJ; omega)]
/-- the first operation of a job without a start -/
def nxA (S : Row) (j : Nat) : Nat → Nat → Nat
  | 0, o => o
  | d + 1, o => if sP S (5 * j + o) = -1 then o else nxA S j d (o + 1)
def nxt (S : Row) (j : Nat) : Nat := nxA S j (nO S j) 0
def Nx (S : Row) (j k : Nat) : Prop := k ≤ nO S j ∧ (∀ o, o < k → sP S (5 * j + o) ≠ -1) ∧ (k < nO S j → sP S (5 * j + k) = -1)
theorem nxA_nx {S : Row} {j : Nat} : ∀ (d o : Nat), o + d = nO S j → (∀ o', o' < o → sP S (5 * j + o') ≠ -1) → Nx S j (nxA S j d o)
  | 0, o, h, h1 => ⟨by show o ≤ _; omega, h1, fun q => absurd q (by show ¬ o < _; omega)⟩
  | d + 1, o, h, h1 => by
    unfold nxA
    by_cases c : sP S (5 * j + o) = -1
    · rw [if_pos c]; exact ⟨by omega, h1, fun _ => c⟩
    · rw [if_neg c]
      exact nxA_nx d (o + 1) (by omega) (fun o' ho' => by
        by_cases e : o' = o
        · rw [e]; exact c
        · exact h1 o' (by omega))
theorem nxt_nx (S : Row) (j : Nat) : Nx S j (nxt S j) := nxA_nx _ _ (by omega) (fun _ h => by omega)
theorem Nx.uniq {S : Row} {j k k' : Nat} (h : Nx S j k) (h' : Nx S j k') : k = k' := by
  rcases Nat.lt_trichotomy k k' with q | q | q
  · exact absurd (h.2.2 (by have := h'.1; omega)) (h'.2.1 k q)
  · exact q
  · exact absurd (h'.2.2 (by have := h.1; omega)) (h.2.1 k' q)
theorem nxt_eq {S : Row} {j k : Nat} (h : Nx S j k) : nxt S j = k := (nxt_nx S j).uniq h
theorem s61 {σ : zSt} (hG : Good (σ 65)) {j : Nat} (hj : (j : Int) < σ 65 1) : zE 61 0 [some (zR 9), some (zI j), none] [] σ = zRI ((nxt (σ 65) j : Nat) : Int) σ := by
  have hj6 := hG.j6 hj
  have hO := (hG.2.1 j hj).2.2
  rw [X61_0]
  have key : ∀ (d o : Nat), o + d = nO (σ 65) j → zE 61 2 [some (zR 9), some (zI j), some (zI (o : Int))] [] σ = zRI ((nxA (σ 65) j d o : Nat) : Int) σ := by
    intro d
    induction d with
    | zero =>
      intro o h
      rw [X61_2, s42_2 hj6, zbI_some, if_neg (by unfold nO at h; omega)]
      rfl
    | succ d ih =>
      intro o h
      have hl : Live (σ 65) j o := liveN (nJ_lt.mpr hj) (by omega)
      have ho5 := hG.o5 hl
      rw [X61_2, s42_2 hj6, zbI_some, if_pos hl.2, s44_3 hj6 ho5, zbI_some]
      unfold nxA
      by_cases c : sP (σ 65) (5 * j + o) = -1
      · rw [if_pos c, if_pos c]
      · rw [if_neg c, if_neg c, zw_nat1 (by omega)]
        exact ih (o + 1) (by omega)
  exact key (nO (σ 65) j) 0 (by omega)
/-- what a rule looks at -/
def rk (S : Row) (rule : Int) (j o : Nat) : Int := if rule = 0 then sU S (5 * j + o) else if rule = 1 then rD S j else if rule = 2 then -(rW S j) else rO S j - o
theorem s63 {σ : zSt} (hG : Good (σ 65)) {j o : Nat} (hl : Live (σ 65) j o) (rule : Int) : zE 63 0 [some (zR 9), some (zI j), some (zI o), some (zI rule)] [] σ = zRI (rk (σ 65) rule j o) σ := by
  have hj6 := hG.j6 hl.1
  have ho5 := hG.o5 hl
  have h1 := hG.2.1 j hl.1
  have h2 := hl.2
  rw [X63_0]
  unfold rk
  by_cases c0 : rule = 0
  · rw [if_pos c0, if_pos c0, s44_1 hj6 ho5, zbI_some]
  rw [if_neg c0, if_neg c0]
  by_cases c1 : rule = 1
  · rw [if_pos c1, if_pos c1, s42_1 hj6, zbI_some]
  rw [if_neg c1, if_neg c1]
  by_cases c2 : rule = 2
  · rw [if_pos c2, if_pos c2, s42_0 hj6, zbI_some, zw_id (by omega) (by omega)]
  · rw [if_neg c2, if_neg c2, s42_2 hj6, zbI_some, zw_id (by omega) (by omega)]
