/-! ===== 31: the class's shifted draft ===== -/
theorem Mx.unbase {s e : Int} {P : Int → Prop} {m : Int} (h : Mx (max s e) P m) : Mx s (fun t => P t ∨ t = e) m := by
  refine ⟨by have := h.1; omega, fun t q => ?_, ?_⟩
  · rcases q with q | q
    · exact h.2.1 t q
    · have := h.1; omega
  · rcases h.2.2 with q | q
    · by_cases c : s ≤ e
      · exact Or.inr (Or.inr (by omega))
      · exact Or.inl (by omega)
    · exact Or.inr (Or.inl q)
/-- what an operation waits for when a plan is shifted -/
def ShP (S : Row) (q : Nat → Nat → Int) (j o : Nat) (t : Int) : Prop := ∃ j' o', j' < nJ S ∧ o' < nO S j' ∧ ((j' = j ∧ o' + 1 = o) ∨ (sM S (5 * j' + o') = sM S (5 * j + o) ∧ sL S (5 * j' + o') < sL S (5 * j + o))) ∧ t = q j' o' + sU S (5 * j' + o')
def ShAt (S : Row) (q : Nat → Nat → Int) (j o : Nat) (v : Int) : Prop := ∃ m, Mx (sL S (5 * j + o)) (ShP S q j o) m ∧ Lst S (5 * j + o) m v
def ShEq (S : Row) (q : Nat → Nat → Int) : Prop := ∀ j o, Live S j o → ShAt S q j o (q j o)
/-- the old plan: starts, one after the other in a job, apart on a machine -/
def VO (S : Row) (B : Int) : Prop := (∀ j o, Live S j o → 0 ≤ sL S (5 * j + o) ∧ sL S (5 * j + o) ≤ B) ∧ (∀ j o, Live S j (o + 1) → sL S (5 * j + o) < sL S (5 * j + (o + 1))) ∧ (∀ j o j' o', Live S j o → Live S j' o' → sM S (5 * j + o) = sM S (5 * j' + o') → ¬ (j = j' ∧ o = o') → sL S (5 * j + o) ≠ sL S (5 * j' + o'))
theorem VO.mono {S : Row} {B : Int} (h : VO S B) {j : Nat} : ∀ (d o : Nat), Live S j (o + d) → sL S (5 * j + o) ≤ sL S (5 * j + (o + d)) := by
  intro d
  induction d with
  | zero => intro o _; exact Int.le_refl _
  | succ d ih =>
    intro o hl
    have h1 := ih o ⟨hl.1, by have := hl.2; omega⟩
    have h2 := h.2.1 j (o + d) hl
    have e : o + (d + 1) = o + d + 1 := by omega
    rw [e]; omega
/-- what was shifted so far: the ones with the least old starts, each as it should be -/
def SI (S T : Row) : Prop := StaP S T ∧ Pfx T ∧ (∀ j o j' o', Live S j o → Live S j' o' → sP T (5 * j + o) ≠ -1 → sP T (5 * j' + o') = -1 → sL S (5 * j + o) ≤ sL S (5 * j' + o')) ∧ ∀ j o, Live S j o → sP T (5 * j + o) ≠ -1 → ShAt S (fun j o => sP T (5 * j + o)) j o (sP T (5 * j + o))
/-- the job whose next operation has the least old start -/
def fSh (S T : Row) (j : Nat) (a : Int × Int) : Int × Int := if nxt T j < nO T j ∧ (a.1 = -1 ∨ sL S (5 * j + nxt T j) < a.2) then ((j : Int), sL S (5 * j + nxt T j)) else a
def bSh (S T : Row) : Int × Int := f1 (fSh S T) (nJ T) (-1, 0)
def BSh (S T : Row) (n : Nat) (a : Int × Int) : Prop := (a.1 = -1 ∧ ∀ j, j < n → ¬ nxt T j < nO T j) ∨ ∃ j : Nat, j < n ∧ a.1 = (j : Int) ∧ nxt T j < nO T j ∧ a.2 = sL S (5 * j + nxt T j) ∧ ∀ j', j' < n → nxt T j' < nO T j' → a.2 ≤ sL S (5 * j' + nxt T j')
theorem fSh_pos {S T : Row} {j : Nat} {a : Int × Int} (hc : nxt T j < nO T j ∧ (a.1 = -1 ∨ sL S (5 * j + nxt T j) < a.2)) : fSh S T j a = ((j : Int), sL S (5 * j + nxt T j)) := by unfold fSh; rw [if_pos hc]
theorem fSh_neg {S T : Row} {j : Nat} {a : Int × Int} (hc : ¬ (nxt T j < nO T j ∧ (a.1 = -1 ∨ sL S (5 * j + nxt T j) < a.2))) : fSh S T j a = a := by unfold fSh; rw [if_neg hc]
theorem fSh_b {S T : Row} {j : Nat} {a : Int × Int} (h : BSh S T j a) : BSh S T (j + 1) (fSh S T j a) := by
  by_cases hc : nxt T j < nO T j ∧ (a.1 = -1 ∨ sL S (5 * j + nxt T j) < a.2)
  · rw [fSh_pos hc]
    refine Or.inr ⟨j, by omega, rfl, hc.1, rfl, fun j' hj' hn => ?_⟩
    by_cases e : j' = j
    · subst e; exact Int.le_refl _
    · rcases h with ⟨h1, h2⟩ | ⟨jb, h1, h2, h3, h4, h5⟩
      · exact absurd hn (h2 j' (by omega))
      · have := h5 j' (by omega) hn
        rcases hc.2 with q | q
        · omega
        · show sL S (5 * j + nxt T j) ≤ _
          omega
  · rw [fSh_neg hc]
    rcases h with ⟨h1, h2⟩ | ⟨jb, h1, h2, h3, h4, h5⟩
    · refine Or.inl ⟨h1, fun j' hj' hn => ?_⟩
      by_cases e : j' = j
      · subst e; exact hc ⟨hn, Or.inl h1⟩
      · exact h2 j' (by omega) hn
    · refine Or.inr ⟨jb, by omega, h2, h3, h4, fun j' hj' hn => ?_⟩
      by_cases e : j' = j
      · subst e
        refine Decidable.byContradiction (fun hx => hc ⟨hn, Or.inr (by omega)⟩)
      · exact h5 j' (by omega) hn
theorem bSh_b (S T : Row) (n : Nat) : BSh S T n (f1 (fSh S T) n (-1, 0)) := by
  induction n with
  | zero => exact Or.inl ⟨rfl, fun j h => by omega⟩
  | succ n ih => exact fSh_b ih
/-- one more shifted operation -/
theorem SI_step {S T : Row} (hG : Good S) {B : Int} (hV : VO S B) (h : SI S T) {j : Nat} (hj : (j : Int) < S 1) (hlt : nxt T j < nO T j) (hmin : ∀ j', j' < nJ S → nxt T j' < nO T j' → sL S (5 * j + nxt T j) ≤ sL S (5 * j' + nxt T j')) {v : Int} (hv : Lst T (5 * j + nxt T j) (bse T j (nxt T j) (sL S (5 * j + nxt T j))) v) (hv0 : v ≠ -1) : SI S (setP T (5 * j + nxt T j) v) := by
  obtain ⟨stP, hP, hord, hsh⟩ := h
  have st := stP.sta
  have hj6 := hG.j6 hj
  have hGT := st.good hG
  have hl : Live S j (nxt T j) := ⟨hj, nO_lt.mp (by rw [← st.no hj6]; exact hlt)⟩
  have ho5 := hG.o5 hl
  have hun : sP T (5 * j + nxt T j) = -1 := (nxt_nx T j).2.2 hlt
  have hjT : (j : Int) < T 1 := by rw [st.k1]; exact hj
  have st2 := setP_sta (S := T) (i := 5 * j + nxt T j) (v := v) (by omega)
  -- an operation without a start waits at least for the least one
  have low : ∀ j' o', Live S j' o' → sP T (5 * j' + o') = -1 → sL S (5 * j + nxt T j) ≤ sL S (5 * j' + o') := by
    intro j' o' hl' h0
    have hj6' := hG.j6 hl'.1
    have hn := nxt_nx T j'
    have hle : nxt T j' ≤ o' := by
      refine Decidable.byContradiction (fun hc => hn.2.1 o' (by omega) h0)
    have hlt' : nxt T j' < nO T j' := by
      rw [st.no hj6'] at *
      have := nO_lt.mpr hl'.2
      omega
    have h1 := hmin j' (nJ_lt.mpr hl'.1) hlt'
    have h2 := hV.mono (j := j') (o' - nxt T j') (nxt T j') (by rw [show nxt T j' + (o' - nxt T j') = o' by omega]; exact hl')
    rw [show nxt T j' + (o' - nxt T j') = o' by omega] at h2
    omega
  have up : ∀ j' o', Live S j' o' → sP T (5 * j' + o') ≠ -1 → sL S (5 * j' + o') ≤ sL S (5 * j + nxt T j) := fun j' o' hl' h0 => hord j' o' j (nxt T j) hl' hl h0 hun
  have hval : ∀ j' o', Live S j' o' → sP (setP T (5 * j + nxt T j) v) (5 * j' + o') = if j' = j ∧ o' = nxt T j then v else sP T (5 * j' + o') := by
    intro j' o' hl'
    have ho5' := hG.o5 hl'
    rw [sP_set]
    by_cases c : j' = j ∧ o' = nxt T j
    · obtain ⟨rfl, rfl⟩ := c
      rw [if_pos rfl, if_pos ⟨rfl, rfl⟩]
    · rw [if_neg (by omega), if_neg c]
  refine ⟨stP.trans st2, pfx_set hGT hP hjT hlt hv0, ?_, ?_⟩
  · intro j1 o1 j2 o2 hl1 hl2 h1 h2
    rw [hval j1 o1 hl1] at h1
    rw [hval j2 o2 hl2] at h2
    by_cases c2 : j2 = j ∧ o2 = nxt T j
    · rw [if_pos c2] at h2; exact absurd h2 hv0
    · rw [if_neg c2] at h2
      by_cases c1 : j1 = j ∧ o1 = nxt T j
      · rw [c1.1, c1.2]; exact low j2 o2 hl2 h2
      · rw [if_neg c1] at h1
        exact hord j1 o1 j2 o2 hl1 hl2 h1 h2
  · intro j1 o1 hl1 h1
    have hj61 := hG.j6 hl1.1
    have ho51 := hG.o5 hl1
    by_cases c1 : j1 = j ∧ o1 = nxt T j
    · obtain ⟨rfl, rfl⟩ := c1
      rw [hval j1 (nxt T j1) hl1, if_pos ⟨rfl, rfl⟩]
      refine ⟨bse T j1 (nxt T j1) (sL S (5 * j1 + nxt T j1)), ?_, (st.lst _ _ _).mp hv⟩
      have hb := bse_mx (S := T) (j := j1) (o := nxt T j1) (moment := sL S (5 * j1 + nxt T j1))
      -- what it waits for, said of T
      have hset : ∀ t, ShP S (fun j o => sP (setP T (5 * j1 + nxt T j1) v) (5 * j + o)) j1 (nxt T j1) t ↔ ((∃ j' o', j' < nJ T ∧ o' < nO T j' ∧ (sM T (5 * j' + o') = sM T (5 * j1 + nxt T j1) ∧ sP T (5 * j' + o') ≠ -1) ∧ t = sP T (5 * j' + o') + sU T (5 * j' + o')) ∨ (nxt T j1 ≠ 0 ∧ t = sP T (5 * j1 + (nxt T j1 - 1)) + sU T (5 * j1 + (nxt T j1 - 1)))) := by
        intro t
        constructor
        · rintro ⟨j', o', q1, q2, q3, q4⟩
          have hl' := liveN q1 q2
          have hj6' := hG.j6 hl'.1
          have hne : ¬ (j' = j1 ∧ o' = nxt T j1) := by
            rintro ⟨rfl, rfl⟩
            rcases q3 with q3 | q3
            · omega
            · omega
          have e9 : sP (setP T (5 * j1 + nxt T j1) v) (5 * j' + o') = sP T (5 * j' + o') := by rw [hval j' o' hl', if_neg hne]
          have q9 : t = sP (setP T (5 * j1 + nxt T j1) v) (5 * j' + o') + sU S (5 * j' + o') := q4
          rw [e9] at q9
          rcases q3 with ⟨rfl, q3⟩ | ⟨q3, q5⟩
          · refine Or.inr ⟨by omega, ?_⟩
            rw [show nxt T j' - 1 = o' by omega, st.u]; exact q9
          · have hst : sP T (5 * j' + o') ≠ -1 := fun h0 => by have := low j' o' hl' h0; omega
            exact Or.inl ⟨j', o', by rw [st.nj]; exact q1, by rw [st.no hj6']; exact q2, ⟨by rw [st.m, st.m]; exact q3, hst⟩, by rw [st.u]; exact q9⟩
        · rintro (⟨j', o', q1, q2, ⟨q3, q4⟩, q5⟩ | ⟨q1, q2⟩)
          · rw [st.nj] at q1
            have hj6' := hG.j6 (nJ_lt.mp q1)
            rw [st.no hj6'] at q2
            have hl' := liveN q1 q2
            rw [st.m, st.m] at q3
            rw [st.u] at q5
            have hne : ¬ (j' = j1 ∧ o' = nxt T j1) := by
              rintro ⟨rfl, rfl⟩
              exact q4 hun
            have hle := up j' o' hl' q4
            have hneq := hV.2.2 j' o' j1 (nxt T j1) hl' hl q3 hne
            refine ⟨j', o', q1, q2, Or.inr ⟨q3, by omega⟩, ?_⟩
            show t = sP (setP T (5 * j1 + nxt T j1) v) (5 * j' + o') + _
            rw [hval j' o' hl', if_neg hne]; exact q5
          · have hl' : Live S j1 (nxt T j1 - 1) := ⟨hl.1, by have := hl.2; omega⟩
            refine ⟨j1, nxt T j1 - 1, nJ_lt.mpr hl'.1, nO_lt.mpr hl'.2, Or.inl ⟨rfl, by omega⟩, ?_⟩
            show t = sP (setP T (5 * j1 + nxt T j1) v) (5 * j1 + (nxt T j1 - 1)) + _
            rw [hval j1 _ hl', if_neg (by omega), ← st.u]; exact q2
      by_cases h0 : nxt T j1 = 0
      · rw [if_pos h0] at hb
        refine hb.congr (fun t => ?_)
        rw [hset t]
        exact ⟨fun q => Or.inl q, fun q => q.elim id (fun q => absurd h0 q.1)⟩
      · rw [if_neg h0] at hb
        refine hb.unbase.congr (fun t => ?_)
        rw [hset t]
        exact ⟨fun q => q.imp id (fun q => ⟨h0, q⟩), fun q => q.imp id (fun q => q.2)⟩
    · rw [hval j1 o1 hl1, if_neg c1] at h1 ⊢
      obtain ⟨m, hm1, hm2⟩ := hsh j1 o1 hl1 h1
      refine ⟨m, hm1.congr (fun t => ?_), hm2⟩
      -- the new one is not waited for by those before
      have hno : ∀ j' o', Live S j' o' → ((j' = j1 ∧ o' + 1 = o1) ∨ (sM S (5 * j' + o') = sM S (5 * j1 + o1) ∧ sL S (5 * j' + o') < sL S (5 * j1 + o1))) → sP (setP T (5 * j + nxt T j) v) (5 * j' + o') = sP T (5 * j' + o') := by
        intro j' o' hl' hq
        rw [hval j' o' hl', if_neg]
        rintro ⟨rfl, rfl⟩
        have hle := up j1 o1 hl1 h1
        rcases hq with ⟨q1, q2⟩ | ⟨q1, q2⟩
        · subst q1
          have hn := nxt_nx T j'
          exact h1 (hP j' o1 ((st.live hG _ _).mpr hl1) (by omega))
        · omega
      constructor
      · rintro ⟨j', o', q1, q2, q3, q4⟩
        refine ⟨j', o', q1, q2, q3, ?_⟩
        show t = sP _ _ + _
        rw [hno j' o' (liveN q1 q2) q3]; exact q4
      · rintro ⟨j', o', q1, q2, q3, q4⟩
        refine ⟨j', o', q1, q2, q3, ?_⟩
        have q4' : t = sP (setP T (5 * j + nxt T j) v) (5 * j' + o') + sU S (5 * j' + o') := q4
        rw [hno j' o' (liveN q1 q2) q3] at q4'
        exact q4'
theorem ShP_congr {S : Row} {q q' : Nat → Nat → Int} (h : ∀ j o, Live S j o → q j o = q' j o) {j o : Nat} {t : Int} : ShP S q j o t ↔ ShP S q' j o t := by
  constructor
  · rintro ⟨j', o', q1, q2, q3, q4⟩
    exact ⟨j', o', q1, q2, q3, by rw [← h j' o' (liveN q1 q2)]; exact q4⟩
  · rintro ⟨j', o', q1, q2, q3, q4⟩
    exact ⟨j', o', q1, q2, q3, by rw [h j' o' (liveN q1 q2)]; exact q4⟩
theorem s139_in {σ : zSt} {S T : Row} (hC : CS σ S) (hD : DR σ T) (hG : Good S) (st : Sta S T) (hA : ∀ j o, Live S j o → σ 18 (5 * j + o) = sL S (5 * j + o)) {j : Nat} (hj : (j : Int) < S 1) (r : Int) (a : Int × Int) (o5 : Option zVal) :
    ∃ d5, zE 139 19 [some (zR 1), some (zI r), some (zI a.1), some (zI a.2), some (zI (j : Int)), o5] [] σ = zE 139 19 [some (zR 1), some (zI r), some (zI (fSh S T j a).1), some (zI (fSh S T j a).2), some (zI ((j + 1 : Nat) : Int)), d5] [] σ := by
  have hj6 := hG.j6 hj
  have w1 : zw ((j : Int) + 1) = ((j + 1 : Nat) : Int) := zw_nat1 (by omega)
  obtain ⟨d1, d2⟩ := hD.1 j (by rw [st.k1]; exact hj)
  obtain ⟨a1, a2, a3⟩ := hC.j hj6
  rw [X139_19, if_pos (by rw [hC.1.2.1]; exact hj), zgd_pos (by omega), zgd_pos (by omega), toNat_n, d1, a3]
  by_cases hlt : nxt T j < nO T j
  · have hl : Live S j (nxt T j) := ⟨hj, nO_lt.mp (by rw [← st.no hj6]; exact hlt)⟩
    have ho5 := hG.o5 hl
    rw [if_pos hl.2, zgd_pos (by omega), s35 (by omega) (by omega), zbI_some, zgd_pos (by omega), toNat_n, hA j _ hl, w1]
    by_cases c0 : a.1 = -1
    · rw [if_pos c0, fSh_pos ⟨hlt, Or.inl c0⟩]
      exact ⟨_, rfl⟩
    rw [if_neg c0]
    by_cases c1 : sL S (5 * j + nxt T j) < a.2
    · rw [if_pos c1, fSh_pos ⟨hlt, Or.inr c1⟩]
      exact ⟨_, rfl⟩
    · rw [if_neg c1, fSh_neg (fun q => q.2.elim c0 c1)]
      exact ⟨_, rfl⟩
  · rw [if_neg (fun q => hlt (by rw [st.no hj6]; exact nO_lt.mpr q)), w1, fSh_neg (fun q => hlt q.1)]
    exact ⟨_, rfl⟩
theorem s139_go {S : Row} (hG : Good S) {β : Int} (hV : VO S β) : ∀ (n : Nat) (σ : zSt) (T : Row), CS σ S → DR σ T → SI S T → (∀ j o, Live S j o → σ 18 (5 * j + o) = sL S (5 * j + o)) → cnt T ≤ n → ∀ B : Int, PB T B → β ≤ B → 550 ≤ B → B + 20 * n ≤ 800000 → ∀ (r : Nat) (o2 o3 o4 o5 : Option zVal), r + n = 30 →
    ∃ σ' Q, zE 139 6 [some (zR 1), some (zI (r : Int)), o2, o3, o4, o5] [] σ = zRV σ' ∧ Fr3 σ σ' ∧ DR σ' Q ∧ SI S Q ∧ PB Q (B + 20 * n) ∧ cnt Q = 0 := by
  intro n
  induction n with
  | zero =>
    intro σ T hC hD hI hA hc B hB hB1 hB3 hB2 r o2 o3 o4 o5 hr
    refine ⟨σ, T, ?_, Fr3.rf σ, hD, hI, fun j o hl => by have := hB j o hl; omega, by omega⟩
    rw [X139_6, if_neg (by omega)]
  | succ n ih =>
    intro σ T hC hD hI hA hc B hB hB1 hB3 hB2 r o2 o3 o4 o5 hr
    have stP := hI.1
    have st := stP.sta
    have hGT := st.good hG
    obtain ⟨d5, hd5⟩ : ∃ d5, zE 139 19 [some (zR 1), some (zI (r : Int)), some (zI (-1)), some (zI 0), some (zI 0), o5] [] σ = zE 139 19 [some (zR 1), some (zI (r : Int)), some (zI (bSh S T).1), some (zI (bSh S T).2), some (zI ((nJ S : Nat) : Int)), d5] [] σ := by
      have key : ∀ n, n ≤ nJ S → ∃ d, zE 139 19 [some (zR 1), some (zI (r : Int)), some (zI (-1)), some (zI 0), some (zI 0), o5] [] σ = zE 139 19 [some (zR 1), some (zI (r : Int)), some (zI (f1 (fSh S T) n (-1, 0)).1), some (zI (f1 (fSh S T) n (-1, 0)).2), some (zI (n : Int)), d] [] σ := by
        intro n
        induction n with
        | zero => intro _; exact ⟨o5, rfl⟩
        | succ n ihn =>
          intro hn
          obtain ⟨d, hd⟩ := ihn (by omega)
          obtain ⟨d', h⟩ := s139_in hC hD hG st hA (nJ_lt.mp (show n < nJ S by omega)) (r : Int) (f1 (fSh S T) n (-1, 0)) d
          exact ⟨d', hd.trans h⟩
      have := key (nJ S) (Nat.le_refl _)
      unfold bSh
      rw [st.nj]
      exact this
    have hbs := bSh_b S T (nJ S)
    have ebs : f1 (fSh S T) (nJ S) (-1, 0) = bSh S T := by unfold bSh; rw [st.nj]
    rw [ebs] at hbs
    have hend : ¬ (((nJ S : Nat) : Int) < σ 2 1) := by rw [hC.1.2.1]; unfold nJ; omega
    rcases hbs with ⟨h1, h2⟩ | ⟨j, h1, h2, h3, h4, h5⟩
    · refine ⟨σ, T, ?_, Fr3.rf σ, hD, hI, fun j o hl => by have := hB j o hl; omega, ?_⟩
      · rw [X139_6, if_pos (by omega)]
        refine hd5.trans ?_
        rw [X139_19, if_neg hend, if_pos h1]
      · have hall : ∀ j o, j < nJ T → o < nO T j → sP T (5 * j + o) ≠ -1 := by
          intro j o hj ho h0
          have hn := nxt_nx T j
          have := h2 j (by rw [← st.nj]; exact hj)
          exact hn.2.1 o (by omega) h0
        have key := fJ_ind (no := nO T) (f := fun j o a => if sP T (5 * j + o) = -1 then a + 1 else a) (nJ T) 0 (fun _ _ a => a = 0) rfl (fun j o a hj ho h => by rw [if_neg (hall j o hj ho)]; exact h) (fun _ _ _ h => h)
        exact key
    · have hj := nJ_lt.mp h1
      have hj6 := hG.j6 hj
      have hjT : (j : Int) < T 1 := by rw [st.k1]; exact hj
      have hl : Live S j (nxt T j) := ⟨hj, nO_lt.mp (by rw [← st.no hj6]; exact h3)⟩
      have hlT : Live T j (nxt T j) := (st.live hG _ _).mpr hl
      have ho5 := hG.o5 hl
      have hu := (hGT.2.2.1 j _ hlT.1 hlT.2).2
      have hvb := hV.1 j _ hl
      have hun : sP T (5 * j + nxt T j) = -1 := (nxt_nx T j).2.2 h3
      have hb := bse_le hGT hB hlT (moment := sL S (5 * j + nxt T j))
      have hCT := hC.of st
      have e140 := s140 hCT hD hGT hB (by omega) hjT h3 (moment := sL S (5 * j + nxt T j)) hvb.1
      obtain ⟨v, ev1, ev2⟩ := s163 hCT hGT (i := 5 * j + nxt T j) (by omega) hu (f := bse T j (nxt T j) (sL S (5 * j + nxt T j))) (by omega)
      have hub : v ≤ max (bse T j (nxt T j) (sL S (5 * j + nxt T j))) 550 := by
        refine Decidable.byContradiction (fun hx => ?_)
        obtain ⟨b, q1, q2⟩ := ev2.2.2 (max (bse T j (nxt T j) (sL S (5 * j + nxt T j))) 550) (by omega) (by omega)
        obtain ⟨g1, g2, g3⟩ := hGT.2.2.2 b q1
        have := q2.2.1
        omega
      have hlo := ev2.1
      have e142 := s142 hCT hD hGT hjT h3 (t := v) (by omega)
      have hfr := sts_fr (σ := σ) (j := j) (i := 5 * j + nxt T j) (m := (sM T (5 * j + nxt T j)).toNat) (t := v) (u := sU T (5 * j + nxt T j)) (n := nxt T j + 1)
      have hdr := DR_set hD hGT hI.2.1 hjT h3 (t := v) (by omega)
      have hSI := SI_step hG hV hI hj h3 (fun j' q1 q2 => by rw [← h4]; exact h5 j' q1 q2) ev2 (by omega)
      have hcs := cnt_set hGT hlT hun (v := v) (by omega)
      have stS := (setP_sta (S := T) (i := 5 * j + nxt T j) (v := v) (by omega)).sta
      have hpb : PB (setP T (5 * j + nxt T j) v) (B + 20) := by
        intro j' o' hl'
        rw [sP_set]
        by_cases c : 5 * j' + o' = 5 * j + nxt T j
        · rw [if_pos c]; omega
        · rw [if_neg c]
          have := hB j' o' ((stS.live hGT j' o').mp hl')
          omega
      obtain ⟨σ', Q, b1, b2, b3, b4, b5, b6⟩ := ih _ _ (hC.same hfr.shop) hdr hSI (fun j' o' hl' => by rw [hfr 18 (by decide) (by decide) (by decide)]; exact hA j' o' hl') (by omega) (B + 20) hpb (by omega) (by omega) (by omega) (r + 1) (some (zI (j : Int))) (some (zI (bSh S T).2)) (some (zI ((5 * j + nxt T j : Nat) : Int))) d5 (by omega)
      refine ⟨σ', Q, ?_, hfr.trans b2, b3, b4, fun j o hl => by have := b5 j o hl; omega, b6⟩
      rw [X139_6, if_pos (by omega)]
      refine hd5.trans ?_
      rw [X139_19, if_neg hend, if_neg (by omega), h2, zgd_pos (by omega), toNat_n, (hD.1 j hjT).1, s35 (by omega) (by omega), zbI_some, h4, e140, zbI_some, ev1, zbI_some, e142, zbV_some, zw_nat1 (by omega), ← h4]
      exact b1
/-- the class's shifted draft -/
theorem s139 {σ : zSt} {S : Row} (hC : CS σ S) (hG : Good S) {β : Int} (hV : VO S β) (hβ : 550 ≤ β ∧ β ≤ 700000) (hA : ∀ j o, Live S j o → σ 18 (5 * j + o) = sL S (5 * j + o)) : ∃ σ' Q, zE 139 0 [some (zR 1), none, none, none, none, none] [] σ = zRV σ' ∧ Fr3 σ σ' ∧ DR σ' Q ∧ StaP S Q ∧ PB Q (β + 600) ∧ ShEq S (fun j o => sP Q (5 * j + o)) ∧ ∀ j, j < nJ S → nxt Q j = nO S j := by
  have hcl := clrS_clr hG
  have st := (clrS_staP S).sta
  obtain ⟨σ1, a1, a2, a3⟩ := s136 (σ := σ) hcl (st.good hG)
  have hcl2 : ∀ j o, Live S j o → sP (clrS S) (5 * j + o) = -1 := fun j o hl => hcl j o ((st.live hG j o).mpr hl)
  have hI : SI S (clrS S) := ⟨clrS_staP S, hcl.pfx, fun j o _ _ hl _ h => absurd (hcl2 j o hl) h, fun j o hl h => absurd (hcl2 j o hl) h⟩
  obtain ⟨σ2, Q, b1, b2, b3, b4, b5, b6⟩ := s139_go hG hV 30 σ1 (clrS S) (hC.same a2.shop) a3 hI (fun j o hl => by rw [a2 18 (by decide) (by decide) (by decide)]; exact hA j o hl) (cnt_le (st.good hG)) β (fun j o hl => by rw [hcl j o hl]; omega) (Int.le_refl _) hβ.1 (by omega) 0 none none none none (by omega)
  have hn := cnt_0 b6
  have st2 := b4.1.sta
  refine ⟨σ2, Q, ?_, a2.trans b2, b3, b4.1, fun j o hl => by have := b5 j o hl; omega, ?_, ?_⟩
  · rw [X139_0, a1, zbV_some]
    exact b1
  · intro j o hl
    have hj6 := hG.j6 hl.1
    refine b4.2.2.2 j o hl ?_
    have h1 := hn j (by rw [st2.nj]; exact nJ_lt.mpr hl.1)
    exact (nxt_nx Q j).2.1 o (by rw [h1, st2.no hj6]; exact nO_lt.mpr hl.2)
  · intro j hj
    rw [hn j (by rw [st2.nj]; exact hj), st2.no (hG.j6 (nJ_lt.mp hj))]
