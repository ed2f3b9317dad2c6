/-! ===== 29: the model's plans: makePlan, planAnew, and what-ifs by a kept copy ===== -/
def clrS (S : Row) : Row := mapS S 3 (fun _ _ => -1)
theorem clrS_staP (S : Row) : StaP S (clrS S) := by
  unfold clrS mapS
  exact mapB_staP
theorem clrS_clr {S : Row} (hG : Good S) : Clr (clrS S) := by
  intro j o hl
  have h := mapS_live (S := S) (q := 3) (g := fun _ _ => -1) hG (((clrS_staP S).sta.live hG j o).mp hl)
  unfold sP clrS
  exact h
/-- the row behind a new plan by a rule -/
noncomputable def mpS (S : Row) (rule : Int) : Row := rset (cpS (fillM rule 0 30 (clrS S)) 3 2) 3 1
theorem fill0_ok {S : Row} (hG : Good S) (rule : Int) : PB (fillM rule 0 30 (clrS S)) 1150 ∧ StaP S (fillM rule 0 30 (clrS S)) ∧ ∀ j, j < nJ S → nxt (fillM rule 0 30 (clrS S)) j = nO S j := by
  have st := (clrS_staP S).sta
  have hcl := clrS_clr hG
  obtain ⟨h1, h2, h3⟩ := fillM_ok (S := clrS S) (st.good hG) (B := 550) (fun j o hl => by rw [hcl j o hl]; omega) (rule := rule) (moment := 0) (by omega) (by omega)
  exact ⟨h1, (clrS_staP S).trans h2, fun j hj => by
    rw [h3 j (by rw [st.nj]; exact hj), st.no (hG.j6 (nJ_lt.mp hj))]⟩
theorem s68 {σ : zSt} (hG : Good (σ 65)) (rule : Int) : zE 68 0 [some (zR 9), some (zI rule), none, none] [] σ = zRV (zset σ 65 (mpS (σ 65) rule)) := by
  have st : ∀ j o, Sta (σ 65) (mapB (σ 65) 3 (fun _ _ => -1) j o) := fun j o => mapB_sta (by omega)
  have loop := zloop2 (α := zSt) (D := Option zVal) (E := Unit) (nJ (σ 65)) (nO (σ 65)) (fun j o s => zup s 65 (26 + 4 * (5 * j + o)) (-1))
    (fun j s d => zE 68 2 [some (zR 9), some (zI rule), some (zI (j : Int)), d] [] s)
    (fun j o s _ => zE 68 14 [some (zR 9), some (zI rule), some (zI (j : Int)), some (zI (o : Int))] [] s)
    (fun _ => zRV (zset σ 65 (mpS (σ 65) rule))) (fun j o s => s = zset σ 65 (mapB (σ 65) 3 (fun _ _ => -1) j o)) ?_ ?_ ?_ ?_ σ none (by rw [mapB_0, zset_self])
  · rw [X68_0]
    exact loop.1
  · intro j s d hj hi
    refine ⟨(), ?_⟩
    show zE 68 2 [some (zR 9), some (zI rule), some (zI (j : Int)), d] [] s = _
    rw [X68_2, if_pos (by rw [hi, zset_at, (st _ _).k1]; exact nJ_lt.mp hj)]
    rfl
  · intro j o s _ hj ho hi
    have hl := liveN hj ho
    have hj6 := hG.j6 hl.1
    have ho5 := hG.o5 hl
    have e1 : rO (s 65) j = rO (σ 65) j := by rw [hi, zset_at]; exact (st _ _).o hj6
    refine ⟨⟨(), ?_⟩, ?_⟩
    · show zE 68 14 [some (zR 9), some (zI rule), some (zI (j : Int)), some (zI (o : Int))] [] s = _
      rw [X68_14, s42_2 hj6, zbI_some, e1, if_pos hl.2, s43 hj6 ho5, zbI_some, zw_id (x := ((23 + 4 * (5 * j + o) : Nat) : Int) + 3) (by omega) (by omega), zgd_pos (by omega), zw_nat1 (by omega)]
      have e4 : (((23 + 4 * (5 * j + o) : Nat) : Int) + 3).toNat = 26 + 4 * (5 * j + o) := by omega
      rw [e4]
    · rw [zup_set, hi, zset_at, zset_set, ← mapB_step (q := 3) hG hl]
  · intro j s _ hj hi
    have hj6 := hG.j6 (nJ_lt.mp hj)
    have e1 : rO (s 65) j = rO (σ 65) j := by rw [hi, zset_at]; exact (st _ _).o hj6
    refine ⟨⟨some (zI ((nO (σ 65) j : Nat) : Int)), ?_⟩, by rw [hi, mapB_row]⟩
    show zE 68 14 [some (zR 9), some (zI rule), some (zI (j : Int)), some (zI ((nO (σ 65) j : Nat) : Int))] [] s = _
    rw [X68_14, s42_2 hj6, zbI_some, e1, if_neg (by unfold nO; omega), zw_nat1 (by omega)]
  · intro s d hi
    have hr : s 65 = clrS (σ 65) := by rw [hi, zset_at]; rfl
    have st2 := (clrS_staP (σ 65)).sta
    have hcl := clrS_clr hG
    show zE 68 2 [some (zR 9), some (zI rule), some (zI ((nJ (σ 65) : Nat) : Int)), d] [] s = _
    rw [X68_2, if_neg (by rw [hr, st2.k1]; unfold nJ; omega)]
    rw [s64 (σ := s) (by rw [hr]; exact st2.good hG) (B := 550) (by rw [hr]; exact fun j o hl => by rw [hcl j o hl]; omega) (by omega) (by omega), zbV_some]
    obtain ⟨f1, f2, f3⟩ := fill0_ok hG rule
    have e67 := s67 (σ := zset s 65 (fillM rule 0 30 (s 65))) (by rw [zset_at, hr]; exact f2.sta.good hG) (p := 3) (q := 2) (Or.inr ⟨rfl, rfl⟩)
    have e67' : zE 67 0 [some (zR 9), some (zI 3), some (zI 2), none, none, none] [] (zset s 65 (fillM rule 0 30 (s 65))) = _ := e67
    rw [e67', zbI_some, zset_at, zset_set, zup_set, zset_at, zset_set, hr, hi, zset_set]
    rfl
/-- what a plan made anew keeps -/
def kq (S : Row) (moment : Int) (j o : Nat) : Prop := sP S (5 * j + o) < moment ∧ ¬ Hits S (5 * j + o) (sP S (5 * j + o))
noncomputable def kpA (S : Row) (moment : Int) (j : Nat) : Nat → Nat → Nat
  | 0, o => o
  | d + 1, o => @ite _ (kq S moment j o) (Classical.propDecidable _) (kpA S moment j d (o + 1)) o
noncomputable def kp (S : Row) (moment : Int) (j : Nat) : Nat := kpA S moment j (nO S j) 0
theorem kpA_spec {S : Row} {moment : Int} {j : Nat} : ∀ (d o : Nat), o + d = nO S j → (∀ o', o' < o → kq S moment j o') → (kpA S moment j d o ≤ nO S j ∧ (∀ o', o' < kpA S moment j d o → kq S moment j o') ∧ (kpA S moment j d o < nO S j → ¬ kq S moment j (kpA S moment j d o)))
  | 0, o, h, h1 => ⟨by show o ≤ _; omega, h1, fun q => absurd q (by show ¬ o < _; omega)⟩
  | d + 1, o, h, h1 => by
    unfold kpA
    by_cases c : kq S moment j o
    · rw [if_pos c]
      exact kpA_spec d (o + 1) (by omega) (fun o' ho' => by
        by_cases e : o' = o
        · rw [e]; exact c
        · exact h1 o' (by omega))
    · rw [if_neg c]; exact ⟨by omega, h1, fun _ => c⟩
theorem kp_spec (S : Row) (moment : Int) (j : Nat) : kp S moment j ≤ nO S j ∧ (∀ o', o' < kp S moment j → kq S moment j o') ∧ (kp S moment j < nO S j → ¬ kq S moment j (kp S moment j)) := kpA_spec _ _ (by omega) (fun _ h => by omega)
noncomputable def kpS (S : Row) (moment : Int) : Row := mapS S 3 (fun j o => if o < kp S moment j then sP S (5 * j + o) else -1)
noncomputable def paS (S : Row) (moment rule : Int) : Row := fillM rule moment 30 (kpS S moment)
/-- the present starts are starts -/
def PP (S : Row) (B : Int) : Prop := ∀ j o, Live S j o → 0 ≤ sP S (5 * j + o) ∧ sP S (5 * j + o) ≤ B
theorem kpS_staP (S : Row) (moment : Int) : StaP S (kpS S moment) := by
  unfold kpS mapS
  exact mapB_staP
theorem kpS_live {S : Row} (hG : Good S) {moment : Int} {j o : Nat} (hl : Live S j o) : sP (kpS S moment) (5 * j + o) = if o < kp S moment j then sP S (5 * j + o) else -1 := by
  have h := mapS_live (S := S) (q := 3) (g := fun j o => if o < kp S moment j then sP S (5 * j + o) else -1) hG hl
  exact h
theorem kpS_pb {S : Row} (hG : Good S) {B : Int} (hP : PP S B) (moment : Int) (hB : 0 ≤ B) : PB (kpS S moment) B := by
  intro j o hl
  have hl2 := ((kpS_staP S moment).sta.live hG j o).mp hl
  rw [kpS_live hG hl2]
  have := hP j o hl2
  split <;> omega
theorem s75 {σ : zSt} (hG : Good (σ 65)) {B : Int} (hP : PP (σ 65) B) {moment rule : Int} (hm : 0 ≤ moment ∧ moment ≤ B) (hB2 : 550 ≤ B ∧ B ≤ 700000) : zE 75 0 [some (zR 9), some (zI moment), some (zI rule), none, none, none, none] [] σ = zRV (zset σ 65 (paS (σ 65) moment rule)) := by
  have st : ∀ j o, Sta (σ 65) (mapB (σ 65) 3 (fun j o => if o < kp (σ 65) moment j then sP (σ 65) (5 * j + o) else -1) j o) := fun j o => mapB_sta (by omega)
  have loop := zloop2 (α := zSt) (D := Option zVal × Option zVal × Option zVal) (E := Option zVal) (nJ (σ 65)) (nO (σ 65)) (fun j o s => zup s 65 (26 + 4 * (5 * j + o)) (if o < kp (σ 65) moment j then sP (σ 65) (5 * j + o) else -1))
    (fun j s d => zE 75 2 [some (zR 9), some (zI moment), some (zI rule), some (zI (j : Int)), d.1, d.2.1, d.2.2] [] s)
    (fun j o s e => zE 75 18 [some (zR 9), some (zI moment), some (zI rule), some (zI (j : Int)), some (zI (if o ≤ kp (σ 65) moment j then 1 else 0)), some (zI (o : Int)), e] [] s)
    (fun _ => zRV (zset σ 65 (paS (σ 65) moment rule))) (fun j o s => s = zset σ 65 (mapB (σ 65) 3 (fun j o => if o < kp (σ 65) moment j then sP (σ 65) (5 * j + o) else -1) j o)) ?_ ?_ ?_ ?_ σ (none, none, none) (by rw [mapB_0, zset_self])
  · rw [X75_0]
    exact loop.1
  · intro j s d hj hi
    refine ⟨d.2.2, ?_⟩
    show zE 75 2 [some (zR 9), some (zI moment), some (zI rule), some (zI (j : Int)), d.1, d.2.1, d.2.2] [] s = _
    rw [X75_2, if_pos (by rw [hi, zset_at, (st _ _).k1]; exact nJ_lt.mp hj)]
    show _ = zE 75 18 [some (zR 9), some (zI moment), some (zI rule), some (zI (j : Int)), some (zI (if 0 ≤ kp (σ 65) moment j then 1 else 0)), some (zI 0), d.2.2] [] s
    rw [if_pos (Nat.zero_le _)]
  · intro j o s e hj ho hi
    have hl := liveN hj ho
    have hj6 := hG.j6 hl.1
    have ho5 := hG.o5 hl
    have hks := kp_spec (σ 65) moment j
    have hpp := hP j o hl
    have hr : s 65 = mapB (σ 65) 3 (fun j o => if o < kp (σ 65) moment j then sP (σ 65) (5 * j + o) else -1) j o := by rw [hi, zset_at]
    have stj := st j o
    have e1 : rO (s 65) j = rO (σ 65) j := by rw [hr]; exact stj.o hj6
    have e2 : sP (s 65) (5 * j + o) = sP (σ 65) (5 * j + o) := by
      rw [hr]
      show mapB _ _ _ _ _ (26 + 4 * (5 * j + o)) = _
      rw [show 26 + 4 * (5 * j + o) = 23 + 3 + 4 * (5 * j + o) by omega, mapB_at hj6 ho5, if_neg (by omega)]
      rfl
    refine ⟨?_, ?_⟩
    · show ∃ e', zE 75 18 [some (zR 9), some (zI moment), some (zI rule), some (zI (j : Int)), some (zI (if o ≤ kp (σ 65) moment j then 1 else 0)), some (zI (o : Int)), e] [] s = zE 75 18 [some (zR 9), some (zI moment), some (zI rule), some (zI (j : Int)), some (zI (if o + 1 ≤ kp (σ 65) moment j then 1 else 0)), some (zI ((o + 1 : Nat) : Int)), e'] [] _
      rw [X75_18, s42_2 hj6, zbI_some, e1, if_pos hl.2, s44_3 hj6 ho5, zbI_some, e2]
      have e4 : (((23 + 4 * (5 * j + o) : Nat) : Int) + 3).toNat = 26 + 4 * (5 * j + o) := by omega
      have fin : ∀ v : Int, v = (if o + 1 ≤ kp (σ 65) moment j then 1 else 0) → zE 75 68 [some (zR 9), some (zI moment), some (zI rule), some (zI (j : Int)), some (zI (if o ≤ kp (σ 65) moment j then 1 else 0)), some (zI (o : Int)), some (zI (sP (σ 65) (5 * j + o)))] [zI v] s = zE 75 18 [some (zR 9), some (zI moment), some (zI rule), some (zI (j : Int)), some (zI (if o + 1 ≤ kp (σ 65) moment j then 1 else 0)), some (zI ((o + 1 : Nat) : Int)), some (zI (sP (σ 65) (5 * j + o)))] [] (zup s 65 (26 + 4 * (5 * j + o)) (if o < kp (σ 65) moment j then sP (σ 65) (5 * j + o) else -1)) := by
        intro v hv
        rw [X75_68, s43 hj6 ho5, zbI_some, zw_id (x := ((23 + 4 * (5 * j + o) : Nat) : Int) + 3) (by omega) (by omega), zgd_pos (by omega), zw_nat1 (by omega), e4, hv]
        by_cases c : o + 1 ≤ kp (σ 65) moment j
        · rw [if_pos c, if_neg (by decide), if_pos (by omega)]
        · rw [if_neg c, if_pos rfl, if_neg (by omega)]
      by_cases c0 : o ≤ kp (σ 65) moment j
      · rw [if_pos c0] at fin ⊢
        rw [if_neg (by decide)]
        by_cases c1 : sP (σ 65) (5 * j + o) < moment
        · rw [if_pos c1]
          have hl' : Live (s 65) j o := by rw [hr]; exact (stj.live hG j o).mpr hl
          obtain ⟨r, h1, h2⟩ := s58 (σ := s) (by rw [hr]; exact stj.good hG) hl' (t := sP (σ 65) (5 * j + o)) (by omega)
          rw [h1, zbI_some]
          refine ⟨_, fin _ ?_⟩
          have hh : Hits (s 65) (5 * j + o) (sP (σ 65) (5 * j + o)) ↔ Hits (σ 65) (5 * j + o) (sP (σ 65) (5 * j + o)) := by rw [hr]; exact stj.hits _ _
          rcases h2 with ⟨q1, q2⟩ | ⟨b, q1, q2, q3⟩
          · have hkq : kq (σ 65) moment j o := ⟨c1, fun q => q2 (hh.mpr q)⟩
            rw [if_pos q1, if_pos]
            refine Decidable.byContradiction (fun hc => ?_)
            have : kp (σ 65) moment j = o := by omega
            exact hks.2.2 (by omega) (by rw [this]; exact hkq)
          · have q4 := q2.2.1
            rw [if_neg (by omega), if_neg]
            intro hc
            exact (hks.2.1 o (by omega)).2 (hh.mp ⟨b, q1, q2⟩)
        · rw [if_neg c1, X75_67]
          refine ⟨_, fin _ ?_⟩
          rw [if_neg]
          intro hc
          exact c1 (hks.2.1 o (by omega)).1
      · rw [if_neg c0] at fin ⊢
        rw [if_pos rfl, X75_67]
        exact ⟨_, fin _ (by rw [if_neg (by omega)])⟩
    · rw [zup_set, hr, hi, zset_set]
      exact congrArg _ (mapB_step (q := 3) (g := fun j o => if o < kp (σ 65) moment j then sP (σ 65) (5 * j + o) else -1) hG hl)
  · intro j s e hj hi
    have hj6 := hG.j6 (nJ_lt.mp hj)
    have e1 : rO (s 65) j = rO (σ 65) j := by rw [hi, zset_at]; exact (st _ _).o hj6
    refine ⟨⟨(some (zI (if nO (σ 65) j ≤ kp (σ 65) moment j then 1 else 0)), some (zI ((nO (σ 65) j : Nat) : Int)), e), ?_⟩, by rw [hi, mapB_row]⟩
    show zE 75 18 [some (zR 9), some (zI moment), some (zI rule), some (zI (j : Int)), some (zI (if nO (σ 65) j ≤ kp (σ 65) moment j then 1 else 0)), some (zI ((nO (σ 65) j : Nat) : Int)), e] [] s = _
    rw [X75_18, s42_2 hj6, zbI_some, e1, if_neg (by unfold nO; omega), zw_nat1 (by omega)]
  · intro s d hi
    have hr : s 65 = kpS (σ 65) moment := by rw [hi, zset_at]; rfl
    have st2 := (kpS_staP (σ 65) moment).sta
    show zE 75 2 [some (zR 9), some (zI moment), some (zI rule), some (zI ((nJ (σ 65) : Nat) : Int)), d.1, d.2.1, d.2.2] [] s = _
    rw [X75_2, if_neg (by rw [hr, st2.k1]; unfold nJ; omega)]
    rw [s64 (σ := s) (by rw [hr]; exact st2.good hG) (B := B) (by rw [hr]; exact kpS_pb hG hP moment (by omega)) hm hB2, zbV_some, hr, hi, zset_set]
    rfl
