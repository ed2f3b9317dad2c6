/-! ===== 32: the model's shifting comes to the one plan that holds the equation ===== -/
def fS (T : Row) (j o : Nat) (j' o' : Nat) (a : Int) : Int := if (j' = j ∧ o' + 1 = o) ∨ (sM T (5 * j' + o') = sM T (5 * j + o) ∧ sL T (5 * j' + o') < sL T (5 * j + o)) then max a (sP T (5 * j' + o') + sU T (5 * j' + o')) else a
def sbm (T : Row) (j o : Nat) : Int := fA T (fS T j o) (sL T (5 * j + o))
noncomputable def shv (T : Row) (j o : Nat) : Int := LstF T (5 * j + o) (sbm T j o)
theorem sbm_mx {T : Row} {j o : Nat} : Mx (sL T (5 * j + o)) (ShP T (fun j o => sP T (5 * j + o)) j o) (sbm T j o) := by
  unfold sbm fA ShP
  refine fJ_max (Q := fun j' o' => (j' = j ∧ o' + 1 = o) ∨ (sM T (5 * j' + o') = sM T (5 * j + o) ∧ sL T (5 * j' + o') < sL T (5 * j + o))) (e := fun j' o' => sP T (5 * j' + o') + sU T (5 * j' + o')) (fun j' o' a _ _ => ⟨fun h => ?_, fun h => ?_⟩)
  · unfold fS; rw [if_pos h]
  · unfold fS; rw [if_neg h]
theorem s71 {σ : zSt} (hG : Good (σ 65)) {B : Int} (hP : PP (σ 65) B) (hL : ∀ j o, Live (σ 65) j o → 0 ≤ sL (σ 65) (5 * j + o) ∧ sL (σ 65) (5 * j + o) ≤ B) (hB2 : 0 ≤ B ∧ B ≤ 800000) {j o : Nat} (hl : Live (σ 65) j o) : zE 71 0 [some (zR 9), some (zI j), some (zI o), none, none, none, none, none] [] σ = zRI (shv (σ 65) j o) σ ∧ ShAt (σ 65) (fun j o => sP (σ 65) (5 * j + o)) j o (shv (σ 65) j o) := by
  have hj := hG.j6 hl.1
  have ho := hG.o5 hl
  have hmx := sbm_mx (T := σ 65) (j := j) (o := o)
  have hbl : 0 ≤ sbm (σ 65) j o ∧ sbm (σ 65) j o ≤ B + 20 := by
    have h0 := hL j o hl
    refine ⟨by have := hmx.1; omega, ?_⟩
    rcases hmx.2.2 with q | ⟨j', o', q1, q2, q3, q4⟩
    · omega
    · have hl' := liveN q1 q2
      have h1 := hP j' o' hl'
      have h2 := (hG.2.2.1 j' o' hl'.1 hl'.2).2
      have q4' : sbm (σ 65) j o = sP (σ 65) (5 * j' + o') + sU (σ 65) (5 * j' + o') := q4
      omega
  obtain ⟨t, ht1, ht2, ht3⟩ := s59 hG hl (f := sbm (σ 65) j o) (by omega)
  have hte : shv (σ 65) j o = t := LstF_eq ht2
  rw [hte]
  refine ⟨?_, _, hmx, ht2⟩
  have loop := (zloop2 (D := Option zVal × Option zVal × Option zVal) (E := Option zVal × Option zVal) (nJ (σ 65)) (nO (σ 65)) (fS (σ 65) j o)
    (fun j' a d => zE 71 11 [some (zR 9), some (zI j), some (zI o), some (zI a), some (zI (j' : Int)), d.1, d.2.1, d.2.2] [] σ)
    (fun j' o' a e => zE 71 25 [some (zR 9), some (zI j), some (zI o), some (zI a), some (zI (j' : Int)), some (zI (o' : Int)), e.1, e.2] [] σ)
    (fun a => zbI (zE 59 0 [some (zR 9), some (zI j), some (zI o), some (zI a), none, none] [] σ) fun r1 σ1 => (some (.inl (some (zI r1), σ1))))
    (fun _ _ _ => True) ?_ ?_ ?_ ?_ (sL (σ 65) (5 * j + o)) (none, none, none) trivial).1
  · have e : fJ (nO (σ 65)) (fS (σ 65) j o) (nJ (σ 65)) (sL (σ 65) (5 * j + o)) = sbm (σ 65) j o := rfl
    rw [e, ht1, zbI_some] at loop
    rw [X71_0, s44_2 hj ho, zbI_some]
    exact loop
  · intro j' a d hj' _
    refine ⟨(d.2.1, d.2.2), ?_⟩
    show zE 71 11 [some (zR 9), some (zI j), some (zI o), some (zI a), some (zI (j' : Int)), d.1, d.2.1, d.2.2] [] σ = _
    rw [X71_11, if_pos (nJ_lt.mp hj')]
    rfl
  · intro j' o' a e hj' ho' _
    have hl' := liveN hj' ho'
    have hj6 := hG.j6 hl'.1
    have ho5 := hG.o5 hl'
    have h1 := hP j' o' hl'
    have h2 := (hG.2.2.1 j' o' hl'.1 hl'.2).2
    have w1 : zw ((o' : Int) + 1) = ((o' + 1 : Nat) : Int) := zw_nat1 (by omega)
    refine ⟨?_, trivial⟩
    show ∃ e' : Option zVal × Option zVal, zE 71 25 [some (zR 9), some (zI j), some (zI o), some (zI a), some (zI (j' : Int)), some (zI (o' : Int)), e.1, e.2] [] σ = zE 71 25 [some (zR 9), some (zI j), some (zI o), some (zI (fS (σ 65) j o j' o' a)), some (zI (j' : Int)), some (zI ((o' + 1 : Nat) : Int)), e'.1, e'.2] [] σ
    have yes : ((j' = j ∧ o' + 1 = o) ∨ (sM (σ 65) (5 * j' + o') = sM (σ 65) (5 * j + o) ∧ sL (σ 65) (5 * j' + o') < sL (σ 65) (5 * j + o))) → ∀ v6 v7 : Int, ∃ e' : Option zVal × Option zVal, zE 71 117 [some (zR 9), some (zI j), some (zI o), some (zI a), some (zI (j' : Int)), some (zI (o' : Int)), some (zI v6), some (zI v7)] [] σ = zE 71 25 [some (zR 9), some (zI j), some (zI o), some (zI (fS (σ 65) j o j' o' a)), some (zI (j' : Int)), some (zI ((o' + 1 : Nat) : Int)), e'.1, e'.2] [] σ := by
      intro hq v6 v7
      refine ⟨(some (zI v6), some (zI v7)), ?_⟩
      have e9 : fS (σ 65) j o j' o' a = max a (sP (σ 65) (5 * j' + o') + sU (σ 65) (5 * j' + o')) := by unfold fS; rw [if_pos hq]
      rw [X71_117, s60_3 hj6 ho5, zbI_some, zw_id (x := sP (σ 65) (5 * j' + o') + sU (σ 65) (5 * j' + o')) (by omega) (by omega), e9, w1]
      by_cases c3 : sP (σ 65) (5 * j' + o') + sU (σ 65) (5 * j' + o') ≤ a
      · rw [if_pos c3, show max a (sP (σ 65) (5 * j' + o') + sU (σ 65) (5 * j' + o')) = a by omega]
      · rw [if_neg c3, s60_3 hj6 ho5, zbI_some, zw_id (x := sP (σ 65) (5 * j' + o') + sU (σ 65) (5 * j' + o')) (by omega) (by omega), show max a (sP (σ 65) (5 * j' + o') + sU (σ 65) (5 * j' + o')) = sP (σ 65) (5 * j' + o') + sU (σ 65) (5 * j' + o') by omega]
    have go105 : ∀ b c : Int, (b = 1 → (j' = j ∧ o' + 1 = o)) → (c = 1 → (sM (σ 65) (5 * j' + o') = sM (σ 65) (5 * j + o) ∧ sL (σ 65) (5 * j' + o') < sL (σ 65) (5 * j + o))) → (b = 0 ∨ b = 1) → (c = 0 ∨ c = 1) → (b = 0 → ¬ (j' = j ∧ o' + 1 = o)) → (c = 0 → ¬ (sM (σ 65) (5 * j' + o') = sM (σ 65) (5 * j + o) ∧ sL (σ 65) (5 * j' + o') < sL (σ 65) (5 * j + o))) →
        ∃ e' : Option zVal × Option zVal, zE 71 105 [some (zR 9), some (zI j), some (zI o), some (zI a), some (zI (j' : Int)), some (zI (o' : Int)), some (zI b), e.2] [zI c] σ = zE 71 25 [some (zR 9), some (zI j), some (zI o), some (zI (fS (σ 65) j o j' o' a)), some (zI (j' : Int)), some (zI ((o' + 1 : Nat) : Int)), e'.1, e'.2] [] σ := by
      intro b c hb hc hb2 hc2 hb0 hc0
      rw [X71_105]
      rcases hb2 with rfl | rfl
      · rw [if_pos rfl]
        rcases hc2 with rfl | rfl
        · have e9 : fS (σ 65) j o j' o' a = a := by unfold fS; rw [if_neg (fun q => q.elim (hb0 rfl) (hc0 rfl))]
          rw [if_pos rfl, w1, e9]
          exact ⟨(some (zI 0), some (zI 0)), rfl⟩
        · rw [if_neg (by decide)]
          exact yes (Or.inr (hc rfl)) _ _
      · rw [if_neg (by decide)]
        exact yes (Or.inl (hb rfl)) _ _
    have go60 : ∀ b : Int, (b = 1 → (j' = j ∧ o' + 1 = o)) → (b = 0 ∨ b = 1) → (b = 0 → ¬ (j' = j ∧ o' + 1 = o)) →
        ∃ e' : Option zVal × Option zVal, zE 71 60 [some (zR 9), some (zI j), some (zI o), some (zI a), some (zI (j' : Int)), some (zI (o' : Int)), e.1, e.2] [zI b] σ = zE 71 25 [some (zR 9), some (zI j), some (zI o), some (zI (fS (σ 65) j o j' o' a)), some (zI (j' : Int)), some (zI ((o' + 1 : Nat) : Int)), e'.1, e'.2] [] σ := by
      intro b hb hb2 hb0
      rw [X71_60, s44_0 hj6 ho5, zbI_some, s44_0 hj ho, zbI_some]
      by_cases c1 : sM (σ 65) (5 * j' + o') = sM (σ 65) (5 * j + o)
      · rw [if_pos c1, s44_2 hj6 ho5, zbI_some, s44_2 hj ho, zbI_some]
        by_cases c2 : sL (σ 65) (5 * j' + o') < sL (σ 65) (5 * j + o)
        · rw [if_pos c2]
          exact go105 b 1 hb (fun _ => ⟨c1, c2⟩) hb2 (Or.inr rfl) hb0 (fun q => absurd q (by decide))
        · rw [if_neg c2]
          exact go105 b 0 hb (fun q => absurd q (by decide)) hb2 (Or.inl rfl) hb0 (fun _ q => c2 q.2)
      · rw [if_neg c1, X71_104]
        exact go105 b 0 hb (fun q => absurd q (by decide)) hb2 (Or.inl rfl) hb0 (fun _ q => c1 q.1)
    rw [X71_25, s42_2 hj6, zbI_some, if_pos (nO_lt.mp ho')]
    by_cases c0 : (j' : Int) = (j : Int)
    · rw [if_pos c0, w1]
      by_cases c1 : ((o' + 1 : Nat) : Int) = (o : Int)
      · rw [if_pos c1]
        exact go60 1 (fun _ => ⟨by omega, by omega⟩) (Or.inr rfl) (fun q => absurd q (by decide))
      · rw [if_neg c1]
        exact go60 0 (fun q => absurd q (by decide)) (Or.inl rfl) (fun _ q => c1 (by omega))
    · rw [if_neg c0]
      exact go60 0 (fun q => absurd q (by decide)) (Or.inl rfl) (fun _ q => c0 (by omega))
  · intro j' a e hj' _
    have hj6 : j' < 6 := hG.j6 (nJ_lt.mp hj')
    refine ⟨⟨(some (zI ((nO (σ 65) j' : Nat) : Int)), e.1, e.2), ?_⟩, trivial⟩
    show zE 71 25 [some (zR 9), some (zI j), some (zI o), some (zI a), some (zI (j' : Int)), some (zI ((nO (σ 65) j' : Nat) : Int)), e.1, e.2] [] σ = _
    rw [X71_25, s42_2 hj6, zbI_some, if_neg (by unfold nO; omega), zw_nat1 (by omega)]
  · intro a d _
    show zE 71 11 [some (zR 9), some (zI j), some (zI o), some (zI a), some (zI ((nJ (σ 65) : Nat) : Int)), d.1, d.2.1, d.2.2] [] σ = _
    rw [X71_11, if_neg (by unfold nJ; omega)]
theorem Lst.mono {S : Row} {i : Nat} {f f' t t' : Int} (h : Lst S i f t) (h' : Lst S i f' t') (hf : f ≤ f') : t ≤ t' := by
  refine Decidable.byContradiction (fun hc => ?_)
  exact h'.2.1 (h.2.2 t' (by have := h'.1; omega) (by omega))
theorem ShAt.mono {S : Row} {q q' : Nat → Nat → Int} {j o : Nat} {v v' : Int} (h : ShAt S q j o v) (h' : ShAt S q' j o v') (hq : ∀ j' o', Live S j' o' → ((j' = j ∧ o' + 1 = o) ∨ (sM S (5 * j' + o') = sM S (5 * j + o) ∧ sL S (5 * j' + o') < sL S (5 * j + o))) → q j' o' ≤ q' j' o') : v ≤ v' := by
  obtain ⟨m, h1, h2⟩ := h
  obtain ⟨m', h3, h4⟩ := h'
  refine h2.mono h4 ?_
  rcases h1.2.2 with e | ⟨j', o', q1, q2, q3, q4⟩
  · rw [e]; exact h3.1
  · have := hq j' o' (liveN q1 q2) q3
    have := h3.2.1 _ ⟨j', o', q1, q2, q3, rfl⟩
    omega
theorem ShEq.uniq {S : Row} {B : Int} (hV : VO S B) {q q' : Nat → Nat → Int} (h : ShEq S q) (h' : ShEq S q') : ∀ j o, Live S j o → q j o = q' j o := by
  have key : ∀ (n : Nat) j o, Live S j o → (sL S (5 * j + o)).toNat ≤ n → q j o = q' j o := by
    intro n
    induction n using Nat.strongRecOn with
    | _ n ih =>
      intro j o hl hn
      have deps : ∀ j' o', Live S j' o' → ((j' = j ∧ o' + 1 = o) ∨ (sM S (5 * j' + o') = sM S (5 * j + o) ∧ sL S (5 * j' + o') < sL S (5 * j + o))) → q j' o' = q' j' o' := by
        intro j' o' hl' hd
        have hlt : sL S (5 * j' + o') < sL S (5 * j + o) := by
          rcases hd with ⟨rfl, rfl⟩ | ⟨_, hd⟩
          · exact hV.2.1 j' o' hl
          · exact hd
        have h0 := (hV.1 j' o' hl').1
        exact ih (sL S (5 * j' + o')).toNat (by omega) j' o' hl' (Nat.le_refl _)
      have h1 := (h j o hl).mono (h' j o hl) (fun j' o' hl' hd => Int.le_of_eq (deps j' o' hl' hd))
      have h2 := (h' j o hl).mono (h j o hl) (fun j' o' hl' hd => Int.le_of_eq (deps j' o' hl' hd).symm)
      omega
  intro j o hl
  exact key _ j o hl (Nat.le_refl _)
theorem ShP_sta {S T : Row} (hG : Good S) (stP : StaP S T) {q : Nat → Nat → Int} {j o : Nat} {t : Int} : ShP T q j o t ↔ ShP S q j o t := by
  have st := stP.sta
  have hL : ∀ i, sL T i = sL S i := fun i => stP _ (by omega)
  constructor
  · rintro ⟨j', o', q1, q2, q3, q4⟩
    rw [st.nj] at q1
    rw [st.no (hG.j6 (nJ_lt.mp q1))] at q2
    rw [st.m, st.m, hL, hL] at q3
    rw [st.u] at q4
    exact ⟨j', o', q1, q2, q3, q4⟩
  · rintro ⟨j', o', q1, q2, q3, q4⟩
    exact ⟨j', o', by rw [st.nj]; exact q1, by rw [st.no (hG.j6 (nJ_lt.mp q1))]; exact q2, by rw [st.m, st.m, hL, hL]; exact q3, by rw [st.u]; exact q4⟩
theorem ShAt_sta {S T : Row} (hG : Good S) (stP : StaP S T) {q : Nat → Nat → Int} {j o : Nat} {v : Int} (h : ShAt T q j o v) : ShAt S q j o v := by
  obtain ⟨m, h1, h2⟩ := h
  have hL : sL T (5 * j + o) = sL S (5 * j + o) := stP _ (by omega)
  rw [hL] at h1
  exact ⟨m, h1.congr (fun t => ShP_sta hG stP), (stP.sta.lst _ _ _).mp h2⟩
/-- one pass over the operations -/
noncomputable def pS (j o : Nat) (a : Int × zSt) : Int × zSt := (if a.1 = 0 then (if shv (a.2 65) j o = sP (a.2 65) (5 * j + o) then 0 else 1) else 1, zup a.2 65 (26 + 4 * (5 * j + o)) (shv (a.2 65) j o))
/-- within a pass: q the plan that holds the equation, th the settled old starts, T0 the row at the pass's begin -/
def PI (S T0 : Row) (q : Nat → Nat → Int) (th : Int) (σ0 : zSt) (j o : Nat) (a : Int × zSt) : Prop := ∃ T, a.2 = zset σ0 65 T ∧ StaP S T ∧ (∀ j' o', Live S j' o' → sL S (5 * j' + o') ≤ sP T (5 * j' + o') ∧ sP T (5 * j' + o') ≤ q j' o') ∧ (∀ j' o', Live S j' o' → sL S (5 * j' + o') < th → sP T (5 * j' + o') = q j' o') ∧ (∀ j' o', Live S j' o' → Bef (nO S) j o j' o' → sL S (5 * j' + o') < th + 1 → sP T (5 * j' + o') = q j' o') ∧ (a.1 = 0 ∨ a.1 = 1) ∧ (a.1 = 0 → T = T0 ∧ ∀ j' o', Live S j' o' → Bef (nO S) j o j' o' → ShAt S (fun j o => sP T0 (5 * j + o)) j' o' (sP T0 (5 * j' + o'))) ∧ ((∀ j' o', Live S j' o' → sP T0 (5 * j' + o') = q j' o') → a.1 = 0)
theorem PI_step {S T0 : Row} (hG : Good S) {β M : Int} (hV : VO S β) {q : Nat → Nat → Int} (hq : ShEq S q) {th : Int} {σ0 : zSt} {j o : Nat} {a : Int × zSt} (hl : Live S j o) (h : PI S T0 q th σ0 j o a) (hv : ShAt (a.2 65) (fun j o => sP (a.2 65) (5 * j + o)) j o (shv (a.2 65) j o)) : PI S T0 q th σ0 j (o + 1) (pS j o a) := by
  obtain ⟨T, e1, stP, hbd, hset, hnew, hg, h0, hall⟩ := h
  have hr : a.2 65 = T := by rw [e1, zset_at]
  have hj6 := hG.j6 hl.1
  have ho5 := hG.o5 hl
  rw [hr] at hv
  have hv2 := ShAt_sta hG stP hv
  unfold pS
  rw [hr]
  have hub : shv T j o ≤ q j o := hv2.mono (hq j o hl) (fun j' o' hl' _ => (hbd j' o' hl').2)
  have hlb : sL S (5 * j + o) ≤ shv T j o := by
    obtain ⟨m, h1, h2⟩ := hv2
    have := h1.1; have := h2.1; omega
  have hfix : sL S (5 * j + o) < th + 1 → shv T j o = q j o := by
    intro hth
    have h1 := (hq j o hl).mono hv2 (fun j' o' hl' hd => by
      have hlt : sL S (5 * j' + o') < sL S (5 * j + o) := by
        rcases hd with ⟨rfl, rfl⟩ | ⟨_, hd⟩
        · exact hV.2.1 j' o' hl
        · exact hd
      have := hset j' o' hl' (by omega)
      show q j' o' ≤ sP T (5 * j' + o')
      omega)
    omega
  have hb0 := (hbd j o hl)
  have hL0 := (hV.1 j o hl).1
  have st2 := setP_sta (S := T) (i := 5 * j + o) (v := shv T j o) (by omega)
  have hval : ∀ j' o', Live S j' o' → sP (setP T (5 * j + o) (shv T j o)) (5 * j' + o') = if j' = j ∧ o' = o then shv T j o else sP T (5 * j' + o') := by
    intro j' o' hl'
    have := hG.o5 hl'
    rw [sP_set]
    by_cases c : j' = j ∧ o' = o
    · obtain ⟨rfl, rfl⟩ := c
      rw [if_pos rfl, if_pos ⟨rfl, rfl⟩]
    · rw [if_neg (by omega), if_neg c]
  refine ⟨setP T (5 * j + o) (shv T j o), ?_, stP.trans st2, ?_, ?_, ?_, ?_, ?_, ?_⟩
  · rw [zup_set, hr, e1, zset_set]; rfl
  · intro j' o' hl'
    rw [hval j' o' hl']
    by_cases c : j' = j ∧ o' = o
    · obtain ⟨rfl, rfl⟩ := c
      rw [if_pos ⟨rfl, rfl⟩]; exact ⟨hlb, hub⟩
    · rw [if_neg c]; exact hbd j' o' hl'
  · intro j' o' hl' hth
    rw [hval j' o' hl']
    by_cases c : j' = j ∧ o' = o
    · obtain ⟨rfl, rfl⟩ := c
      rw [if_pos ⟨rfl, rfl⟩]; exact hfix (by omega)
    · rw [if_neg c]; exact hset j' o' hl' hth
  · intro j' o' hl' hb hth
    rw [hval j' o' hl']
    by_cases c : j' = j ∧ o' = o
    · obtain ⟨rfl, rfl⟩ := c
      rw [if_pos ⟨rfl, rfl⟩]; exact hfix hth
    · rw [if_neg c]
      exact hnew j' o' hl' ⟨hb.1, by have := hb.2; omega⟩ hth
  · dsimp only
    split
    · split
      · exact Or.inl rfl
      · exact Or.inr rfl
    · exact Or.inr rfl
  · dsimp only
    intro hz
    by_cases ca : a.1 = 0
    · rw [if_pos ca] at hz
      by_cases cv : shv T j o = sP T (5 * j + o)
      · obtain ⟨g1, g2⟩ := h0 ca
        have hTT : setP T (5 * j + o) (shv T j o) = T := by
          funext k
          unfold setP rset
          by_cases ck : k = 26 + 4 * (5 * j + o)
          · rw [if_pos ck, cv, ck]; rfl
          · rw [if_neg ck]
        refine ⟨by rw [hTT]; exact g1, fun j' o' hl' hb => ?_⟩
        by_cases c : j' = j ∧ o' = o
        · obtain ⟨rfl, rfl⟩ := c
          rw [cv] at hv2
          rw [← g1]; exact hv2
        · exact g2 j' o' hl' ⟨hb.1, by have := hb.2; omega⟩
      · rw [if_neg cv] at hz; exact absurd hz (by decide)
    · rw [if_neg ca] at hz; exact absurd hz (by decide)
  · intro ha
    have ca := hall ha
    dsimp only
    rw [if_pos ca, if_pos]
    have g1 := (h0 ca).1
    have h1 : sP T (5 * j + o) = q j o := by rw [g1]; exact ha j o hl
    have h2 := (hq j o hl).mono hv2 (fun j' o' hl' _ => by
      show q j' o' ≤ sP T (5 * j' + o')
      rw [g1, ha j' o' hl']; exact Int.le_refl _)
    omega
theorem zloop2e {α D E R : Type} (n : Nat) (no : Nat → Nat) (f : Nat → Nat → α → α) (H : Nat → α → D → R) (I : Nat → Nat → α → E → R) (Inv : Nat → Nat → α → Prop)
    (h0 : ∀ j a d, j < n → Inv j 0 a → ∃ e, H j a d = I j 0 a e)
    (h1 : ∀ j o a e, j < n → o < no j → Inv j o a → (∃ e', I j o a e = I j (o + 1) (f j o a) e') ∧ Inv j (o + 1) (f j o a))
    (h2 : ∀ j a e, j < n → Inv j (no j) a → (∃ d, I j (no j) a e = H (j + 1) a d) ∧ Inv (j + 1) 0 a) (a : α) (d : D) (hi : Inv 0 0 a) : (∃ d', H 0 a d = H n (fJ no f n a) d') ∧ Inv n 0 (fJ no f n a) := by
  have inner : ∀ (j : Nat), j < n → ∀ (a : α) (e : E), Inv j 0 a → ∀ o, o ≤ no j → (∃ e', I j 0 a e = I j o (fO f j o a) e') ∧ Inv j o (fO f j o a) := by
    intro j hj a e hi o
    induction o with
    | zero => intro _; exact ⟨⟨e, rfl⟩, hi⟩
    | succ o ih =>
      intro ho
      obtain ⟨⟨e1, q1⟩, q2⟩ := ih (by omega)
      obtain ⟨⟨e2, q3⟩, q4⟩ := h1 j o _ e1 hj (by omega) q2
      exact ⟨⟨e2, q1.trans q3⟩, q4⟩
  have outer : ∀ j, j ≤ n → (∃ d', H 0 a d = H j (fJ no f j a) d') ∧ Inv j 0 (fJ no f j a) := by
    intro j
    induction j with
    | zero => intro _; exact ⟨⟨d, rfl⟩, hi⟩
    | succ j ih =>
      intro hj
      obtain ⟨⟨d1, q1⟩, q2⟩ := ih (by omega)
      obtain ⟨e1, q3⟩ := h0 j _ d1 (by omega) q2
      obtain ⟨⟨e2, q4⟩, q5⟩ := inner j (by omega) _ e1 q2 (no j) (Nat.le_refl _)
      obtain ⟨⟨d2, q6⟩, q7⟩ := h2 j _ e2 (by omega) q5
      exact ⟨⟨d2, q1.trans (q3.trans (q4.trans q6))⟩, q7⟩
  exact outer n (Nat.le_refl _)
/-- a whole pass -/
theorem s72_pass {S T0 : Row} (hG : Good S) {β M : Int} (hV : VO S β) {q : Nat → Nat → Int} (hq : ShEq S q) (hM : ∀ j o, Live S j o → q j o ≤ M) (hb : 0 ≤ β ∧ β ≤ M ∧ M ≤ 800000) (σ0 : zSt) (th : Int) (stP : StaP S T0) (hbd : ∀ j o, Live S j o → sL S (5 * j + o) ≤ sP T0 (5 * j + o) ∧ sP T0 (5 * j + o) ≤ q j o) (hset : ∀ j o, Live S j o → sL S (5 * j + o) < th → sP T0 (5 * j + o) = q j o) (o3 o4 : Option zVal) :
    ∃ (g : Int) (T : Row) (o3' o4' : Option zVal), zE 72 17 [some (zR 9), some (zI 0), some (zI 0), o3, o4] [] (zset σ0 65 T0) = zE 72 9 [some (zR 9), some (zI g), some (zI ((nJ S : Nat) : Int)), o3', o4'] [] (zset σ0 65 T) ∧ PI S T0 q th σ0 (nJ S) 0 (g, zset σ0 65 T) := by
  have h := zloop2e (α := Int × zSt) (D := Option zVal × Option zVal) (E := Option zVal) (nJ S) (nO S) pS
    (fun j a d => zE 72 17 [some (zR 9), some (zI a.1), some (zI (j : Int)), d.1, d.2] [] a.2)
    (fun j o a e => zE 72 29 [some (zR 9), some (zI a.1), some (zI (j : Int)), some (zI (o : Int)), e] [] a.2)
    (PI S T0 q th σ0) ?_ ?_ ?_ (0, zset σ0 65 T0) (o3, o4) ⟨T0, rfl, stP, hbd, hset, fun _ _ _ hb => by have := hb.2; omega, Or.inl rfl, fun _ => ⟨rfl, fun _ _ _ hb => by have := hb.2; omega⟩, fun _ => rfl⟩
  · obtain ⟨⟨d', h1⟩, h2⟩ := h
    obtain ⟨T, e1, r⟩ := id h2
    refine ⟨(fJ (nO S) pS (nJ S) (0, zset σ0 65 T0)).1, T, d'.1, d'.2, ?_, by rw [← e1]; exact h2⟩
    have h1' : zE 72 17 [some (zR 9), some (zI 0), some (zI 0), o3, o4] [] (zset σ0 65 T0) = zE 72 17 [some (zR 9), some (zI (fJ (nO S) pS (nJ S) (0, zset σ0 65 T0)).1), some (zI ((nJ S : Nat) : Int)), d'.1, d'.2] [] (fJ (nO S) pS (nJ S) (0, zset σ0 65 T0)).2 := h1
    rw [h1', e1, X72_17, if_neg (by rw [zset_at, r.1.sta.k1]; unfold nJ; omega)]
  · intro j a d hj hi
    obtain ⟨T, e1, st2, r⟩ := hi
    refine ⟨d.2, ?_⟩
    show zE 72 17 [some (zR 9), some (zI a.1), some (zI (j : Int)), d.1, d.2] [] a.2 = _
    rw [X72_17, if_pos (by rw [e1, zset_at, st2.sta.k1]; exact nJ_lt.mp hj)]
    rfl
  · intro j o a e hj ho hi
    obtain ⟨T, e1, st2, hbd2, r⟩ := id hi
    have hl := liveN hj ho
    have hj6 := hG.j6 hl.1
    have ho5 := hG.o5 hl
    have hr : a.2 65 = T := by rw [e1, zset_at]
    have hGT : Good (a.2 65) := by rw [hr]; exact st2.sta.good hG
    have hlT : Live (a.2 65) j o := by rw [hr]; exact (st2.sta.live hG _ _).mpr hl
    have hPT : PP (a.2 65) M := by
      rw [hr]
      intro j' o' hl'
      have hl2 := (st2.sta.live hG _ _).mp hl'
      have h1 := hbd2 j' o' hl2
      have h2 := hM j' o' hl2
      have h3 := (hV.1 j' o' hl2).1
      omega
    have hLT : ∀ j o, Live (a.2 65) j o → 0 ≤ sL (a.2 65) (5 * j + o) ∧ sL (a.2 65) (5 * j + o) ≤ M := by
      rw [hr]
      intro j' o' hl'
      have hl2 := (st2.sta.live hG _ _).mp hl'
      have e9 : sL T (5 * j' + o') = sL S (5 * j' + o') := st2 _ (by omega)
      have h3 := hV.1 j' o' hl2
      omega
    obtain ⟨q1, q2⟩ := s71 (σ := a.2) hGT hPT hLT (by omega) hlT
    refine ⟨?_, PI_step (M := M) hG hV hq hl hi q2⟩
    have e4 : (((23 + 4 * (5 * j + o) : Nat) : Int) + 3).toNat = 26 + 4 * (5 * j + o) := by omega
    have fin : ∀ v : Int, v = (pS j o a).1 → zE 72 68 [some (zR 9), some (zI a.1), some (zI (j : Int)), some (zI (o : Int)), some (zI (shv (a.2 65) j o))] [zI v] a.2 = zE 72 29 [some (zR 9), some (zI (pS j o a).1), some (zI (j : Int)), some (zI ((o + 1 : Nat) : Int)), some (zI (shv (a.2 65) j o))] [] (pS j o a).2 := by
      intro v hv
      rw [X72_68, s43 hj6 ho5, zbI_some, zw_id (x := ((23 + 4 * (5 * j + o) : Nat) : Int) + 3) (by omega) (by omega), zgd_pos (by omega), zw_nat1 (by omega), e4, hv]
      rfl
    show ∃ e', zE 72 29 [some (zR 9), some (zI a.1), some (zI (j : Int)), some (zI (o : Int)), e] [] a.2 = _
    rw [X72_29, s42_2 hj6, zbI_some, if_pos hlT.2, q1, zbI_some]
    by_cases c : a.1 = 0
    · rw [if_pos c, s44_3 hj6 ho5, zbI_some]
      refine ⟨_, fin _ ?_⟩
      unfold pS
      rw [if_pos c]
    · rw [if_neg c, X72_63]
      refine ⟨_, fin _ ?_⟩
      unfold pS
      rw [if_neg c]
  · intro j a e hj hi
    obtain ⟨T, e1, st2, hbd2, hs2, hn2, r⟩ := hi
    have hj6 := hG.j6 (nJ_lt.mp hj)
    have hO : rO (a.2 65) j = rO S j := by rw [e1, zset_at]; exact st2.sta.o hj6
    have hbf : ∀ j' o', Bef (nO S) (j + 1) 0 j' o' → Bef (nO S) j (nO S j) j' o' := by
      intro j' o' hb
      refine ⟨hb.1, ?_⟩
      by_cases c : j' = j
      · subst c; exact Or.inr ⟨rfl, hb.1⟩
      · exact Or.inl (by have := hb.2; omega)
    refine ⟨⟨(some (zI ((nO S j : Nat) : Int)), e), ?_⟩, T, e1, st2, hbd2, hs2, fun j' o' hl' hb => hn2 j' o' hl' (hbf j' o' hb), r.1, fun h => ⟨(r.2.1 h).1, fun j' o' hl' hb => (r.2.1 h).2 j' o' hl' (hbf j' o' hb)⟩, r.2.2⟩
    show zE 72 29 [some (zR 9), some (zI a.1), some (zI (j : Int)), some (zI ((nO S j : Nat) : Int)), e] [] a.2 = _
    rw [X72_29, s42_2 hj6, zbI_some, hO, if_neg (by unfold nO; omega), zw_nat1 (by omega)]
theorem s72_go {S : Row} (hG : Good S) {β M : Int} (hV : VO S β) {q : Nat → Nat → Int} (hq : ShEq S q) (hM : ∀ j o, Live S j o → q j o ≤ M) (hb : 0 ≤ β ∧ β ≤ M ∧ M ≤ 800000) (σ0 : zSt) : ∀ (d : Nat) (th : Int) (T : Row) (o2 o3 o4 : Option zVal), β + 1 - th ≤ d → StaP S T → (∀ j o, Live S j o → sL S (5 * j + o) ≤ sP T (5 * j + o) ∧ sP T (5 * j + o) ≤ q j o) → (∀ j o, Live S j o → sL S (5 * j + o) < th → sP T (5 * j + o) = q j o) →
    ∃ R, zE 72 9 [some (zR 9), some (zI 1), o2, o3, o4] [] (zset σ0 65 T) = zRV (zset σ0 65 R) ∧ StaP S R ∧ ∀ j o, Live S j o → sP R (5 * j + o) = q j o := by
  intro d
  induction d with
  | zero =>
    intro th T o2 o3 o4 hd stP hbd hset
    have hall : ∀ j o, Live S j o → sP T (5 * j + o) = q j o := fun j o hl => hset j o hl (by have := (hV.1 j o hl).2; omega)
    obtain ⟨g, T', o3', o4', h1, T2, e1, st2, hbd2, hs2, hn2, hg, h0, ha⟩ := s72_pass hG hV hq hM hb σ0 th stP hbd hset o3 o4
    have hg0 : g = 0 := ha hall
    have hTT : T' = T2 := by
      have := congrFun e1 65
      have h3 : (zset σ0 65 T') 65 = (zset σ0 65 T2) 65 := this
      rw [zset_at, zset_at] at h3; exact h3
    refine ⟨T', ?_, by rw [hTT]; exact st2, fun j o hl => ?_⟩
    · rw [X72_9, if_neg (by decide), h1, X72_9, if_pos hg0]
    · rw [hTT, (h0 hg0).1]; exact hall j o hl
  | succ d ih =>
    intro th T o2 o3 o4 hd stP hbd hset
    obtain ⟨g, T', o3', o4', h1, T2, e1, st2, hbd2, hs2, hn2, hg, h0, ha⟩ := s72_pass hG hV hq hM hb σ0 th stP hbd hset o3 o4
    have hTT : T' = T2 := by
      have := congrFun e1 65
      have h3 : (zset σ0 65 T') 65 = (zset σ0 65 T2) 65 := this
      rw [zset_at, zset_at] at h3; exact h3
    have hend : ∀ j o, Live S j o → Bef (nO S) (nJ S) 0 j o := fun j o hl => ⟨nO_lt.mpr hl.2, Or.inl (nJ_lt.mpr hl.1)⟩
    rw [X72_9, if_neg (by decide), h1]
    rcases hg with hg | hg
    · have hg0 : g = 0 := hg
      obtain ⟨g1, g2⟩ := h0 hg
      refine ⟨T', ?_, by rw [hTT]; exact st2, ?_⟩
      · rw [X72_9, if_pos hg0]
      · have hEq : ShEq S (fun j o => sP T (5 * j + o)) := fun j o hl => g2 j o hl (hend j o hl)
        intro j o hl
        rw [hTT, g1]
        exact hEq.uniq hV hq j o hl
    · have hg1 : g = 1 := hg
      rw [hg1]
      exact ih (th + 1) T' _ _ _ (by omega) (by rw [hTT]; exact st2) (by rw [hTT]; exact hbd2) (by rw [hTT]; exact fun j o hl h => hn2 j o hl (hend j o hl) h)
/-- the model's shifting, given a plan that holds the equation -/
theorem s72 {σ : zSt} (hG : Good (σ 65)) {β M : Int} (hV : VO (σ 65) β) {q : Nat → Nat → Int} (hq : ShEq (σ 65) q) (hM : ∀ j o, Live (σ 65) j o → q j o ≤ M) (hb : 0 ≤ β ∧ β ≤ M ∧ M ≤ 800000) : ∃ R, zE 72 0 [some (zR 9), none, none, none, none] [] σ = zRV (zset σ 65 R) ∧ StaP (σ 65) R ∧ ∀ j o, Live (σ 65) j o → sP R (5 * j + o) = q j o := by
  have e67 := s67 (σ := σ) hG (p := 2) (q := 3) (Or.inl ⟨rfl, rfl⟩)
  have e67' : zE 67 0 [some (zR 9), some (zI 2), some (zI 3), none, none, none] [] σ = _ := e67
  have stP : StaP (σ 65) (cpS (σ 65) 2 3) := by
    unfold cpS mapS
    exact mapB_staP
  have hcp : ∀ j o, Live (σ 65) j o → sP (cpS (σ 65) 2 3) (5 * j + o) = sL (σ 65) (5 * j + o) := by
    intro j o hl
    have h := mapS_live (S := σ 65) (q := 3) (g := fun j o => σ 65 (23 + 2 + 4 * (5 * j + o))) hG hl
    exact h
  have hlo : ∀ j o, Live (σ 65) j o → sL (σ 65) (5 * j + o) ≤ q j o := by
    intro j o hl
    obtain ⟨m, h1, h2⟩ := hq j o hl
    have := h1.1; have := h2.1; omega
  obtain ⟨R, h1, h2, h3⟩ := s72_go hG hV hq hM hb σ (β + 1).toNat 0 (cpS (σ 65) 2 3) none none none (by omega) stP (fun j o hl => by rw [hcp j o hl]; exact ⟨Int.le_refl _, hlo j o hl⟩) (fun j o hl h => by have := (hV.1 j o hl).1; omega)
  refine ⟨R, ?_, h2, h3⟩
  rw [X72_0, e67', zbI_some]
  exact h1
