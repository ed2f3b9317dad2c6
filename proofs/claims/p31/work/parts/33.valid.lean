/-! ===== 33: plans are plans: one after the other in a job, apart on a machine ===== -/
/-- component p is a plan -/
def Val (S : Row) (p : Nat) (B : Int) : Prop := (∀ j o, Live S j o → 0 ≤ S (23 + p + 4 * (5 * j + o)) ∧ S (23 + p + 4 * (5 * j + o)) ≤ B) ∧ (∀ j o, Live S j (o + 1) → S (23 + p + 4 * (5 * j + o)) + sU S (5 * j + o) ≤ S (23 + p + 4 * (5 * j + (o + 1)))) ∧ (∀ j o j' o', Live S j o → Live S j' o' → sM S (5 * j + o) = sM S (5 * j' + o') → ¬ (j = j' ∧ o = o') → S (23 + p + 4 * (5 * j + o)) + sU S (5 * j + o) ≤ S (23 + p + 4 * (5 * j' + o')) ∨ S (23 + p + 4 * (5 * j' + o')) + sU S (5 * j' + o') ≤ S (23 + p + 4 * (5 * j + o)))
theorem Val.vo {S : Row} (hG : Good S) {B : Int} (h : Val S 2 B) : VO S B := by
  have e : ∀ i, sL S i = S (23 + 2 + 4 * i) := fun i => rfl
  refine ⟨fun j o hl => h.1 j o hl, fun j o hl => ?_, fun j o j' o' hl hl' hm hne => ?_⟩
  · have h1 := h.2.1 j o hl
    have h2 := (hG.2.2.1 j o hl.1 (by have := hl.2; omega)).2
    rw [e, e]; omega
  · have h1 := h.2.2 j o j' o' hl hl' hm hne
    have h2 := (hG.2.2.1 j o hl.1 hl.2).2
    have h3 := (hG.2.2.1 j' o' hl'.1 hl'.2).2
    rw [e, e]; omega
theorem Val.pp {S : Row} {B : Int} (h : Val S 3 B) : PP S B := fun j o hl => h.1 j o hl
/-- a plan that is not yet whole -/
def PV (T : Row) : Prop := (∀ j o, Live T j o → sP T (5 * j + o) = -1 ∨ 0 ≤ sP T (5 * j + o)) ∧ (∀ j o, Live T j (o + 1) → sP T (5 * j + (o + 1)) ≠ -1 → sP T (5 * j + o) ≠ -1 ∧ sP T (5 * j + o) + sU T (5 * j + o) ≤ sP T (5 * j + (o + 1))) ∧ (∀ j o j' o', Live T j o → Live T j' o' → sM T (5 * j + o) = sM T (5 * j' + o') → ¬ (j = j' ∧ o = o') → sP T (5 * j + o) ≠ -1 → sP T (5 * j' + o') ≠ -1 → sP T (5 * j + o) + sU T (5 * j + o) ≤ sP T (5 * j' + o') ∨ sP T (5 * j' + o') + sU T (5 * j' + o') ≤ sP T (5 * j + o))
theorem PV_set {T : Row} (hG : Good T) (hP : Pfx T) (h : PV T) {j : Nat} (hj : (j : Int) < T 1) (hlt : nxt T j < nO T j) {moment v : Int} (hm : 0 ≤ moment) (hv : bse T j (nxt T j) moment ≤ v) : PV (setP T (5 * j + nxt T j) v) := by
  have hj6 := hG.j6 hj
  have hl : Live T j (nxt T j) := ⟨hj, nO_lt.mp hlt⟩
  have ho5 := hG.o5 hl
  have hun := (nxt_nx T j).2.2 hlt
  have st := (setP_sta (S := T) (i := 5 * j + nxt T j) (v := v) (by omega)).sta
  have hb := bse_mx (S := T) (j := j) (o := nxt T j) (moment := moment)
  have hv0 : 0 ≤ v := by
    have h1 := hb.1
    by_cases c : nxt T j = 0
    · rw [if_pos c] at h1; omega
    · rw [if_neg c] at h1; omega
  have hval : ∀ j' o', Live T j' o' → sP (setP T (5 * j + nxt T j) v) (5 * j' + o') = if j' = j ∧ o' = nxt T j then v else sP T (5 * j' + o') := by
    intro j' o' hl'
    have := hG.o5 hl'
    rw [sP_set]
    by_cases c : j' = j ∧ o' = nxt T j
    · obtain ⟨rfl, rfl⟩ := c
      rw [if_pos rfl, if_pos ⟨rfl, rfl⟩]
    · rw [if_neg (by omega), if_neg c]
  refine ⟨fun j' o' hl' => ?_, fun j' o' hl' hne => ?_, fun j1 o1 j2 o2 hl1 hl2 hmm hne h1 h2 => ?_⟩
  · have hl2 := (st.live hG _ _).mp hl'
    rw [hval j' o' hl2]
    by_cases c : j' = j ∧ o' = nxt T j
    · rw [if_pos c]; exact Or.inr hv0
    · rw [if_neg c]; exact h.1 j' o' hl2
  · have hl2 := (st.live hG _ _).mp hl'
    have hl3 : Live T j' o' := ⟨hl2.1, by have := hl2.2; omega⟩
    rw [hval j' (o' + 1) hl2] at hne ⊢
    rw [hval j' o' hl3, st.u]
    by_cases c1 : j' = j ∧ o' + 1 = nxt T j
    · rw [if_pos c1, if_neg (by omega)]
      have hn := (nxt_nx T j).2.1 o' (by omega)
      rw [c1.1]
      refine ⟨hn, ?_⟩
      have h1 := hb.1
      rw [if_neg (by omega), show nxt T j - 1 = o' by omega] at h1
      omega
    · rw [if_neg c1] at hne ⊢
      by_cases c2 : j' = j ∧ o' = nxt T j
      · exfalso
        exact hne (hP j' (o' + 1) hl2 (by rw [c2.1]; omega))
      · rw [if_neg c2]
        exact h.2.1 j' o' hl2 hne
  · have hl1' := (st.live hG _ _).mp hl1
    have hl2' := (st.live hG _ _).mp hl2
    rw [st.m, st.m] at hmm
    rw [hval j1 o1 hl1'] at h1 ⊢
    rw [hval j2 o2 hl2'] at h2 ⊢
    rw [st.u, st.u]
    by_cases c1 : j1 = j ∧ o1 = nxt T j
    · rw [if_pos c1]
      have c2 : ¬ (j2 = j ∧ o2 = nxt T j) := fun q => hne ⟨by omega, by omega⟩
      rw [if_neg c2] at h2 ⊢
      refine Or.inr ?_
      have := hb.2.1 _ ⟨j2, o2, nJ_lt.mpr hl2'.1, nO_lt.mpr hl2'.2, ⟨by rw [← hmm, c1.1, c1.2], h2⟩, rfl⟩
      omega
    · rw [if_neg c1] at h1 ⊢
      by_cases c2 : j2 = j ∧ o2 = nxt T j
      · rw [if_pos c2]
        refine Or.inl ?_
        have := hb.2.1 _ ⟨j1, o1, nJ_lt.mpr hl1'.1, nO_lt.mpr hl1'.2, ⟨by rw [hmm, c2.1, c2.2], h1⟩, rfl⟩
        omega
      · rw [if_neg c2] at h2 ⊢
        exact h.2.2 j1 o1 j2 o2 hl1' hl2' hmm hne h1 h2
theorem fillM_pv {rule moment : Int} (hm : 0 ≤ moment ∧ moment ≤ 800000) : ∀ (n : Nat) (S : Row), Good S → ∀ B : Int, PB S B → moment ≤ B → 550 ≤ B → B + 20 * n ≤ 800000 → Pfx S → PV S → PV (fillM rule moment n S) := by
  intro n
  induction n with
  | zero => intro S _ B _ _ _ _ _ h; exact h
  | succ n ih =>
    intro S hG B hB hB1 hB3 hB2 hP h
    have hfm : fillM rule moment (n + 1) S = if (bstO S rule moment).1 = -1 then S else fillM rule moment n (setP S (5 * (bstO S rule moment).1.toNat + nxt S (bstO S rule moment).1.toNat) (bstO S rule moment).2.1) := rfl
    rw [hfm]
    by_cases hx : (bstO S rule moment).1 = -1
    · rw [if_pos hx]; exact h
    · rw [if_neg hx]
      rcases bstO_bst S rule moment with q | ⟨j, h1, h2, h3, h4, h5⟩
      · exact absurd q hx
      have hj := nJ_lt.mp h1
      have hl : Live S j (nxt S j) := ⟨hj, nO_lt.mp h3⟩
      have hj6 := hG.j6 hj
      have ho5 := hG.o5 hl
      obtain ⟨e1, e2⟩ := er_lst hG hB (by omega) hl hm
      have e4 := bse_le hG hB hl (moment := moment)
      have e5 := e1.1
      have hjt : (bstO S rule moment).1.toNat = j := by omega
      rw [hjt]
      have st := setP_sta (S := S) (i := 5 * j + nxt S j) (v := (bstO S rule moment).2.1) (by omega)
      have hpb : PB (setP S (5 * j + nxt S j) (bstO S rule moment).2.1) (B + 20) := by
        intro j' o' hl'
        rw [sP_set]
        by_cases c : 5 * j' + o' = 5 * j + nxt S j
        · rw [if_pos c]; omega
        · rw [if_neg c]
          have := hB j' o' ((st.sta.live hG j' o').mp hl')
          omega
      exact ih _ (st.sta.good hG) (B + 20) hpb (by omega) (by omega) (by omega) (pfx_set hG hP hj h3 (by omega)) (PV_set hG hP h hj h3 hm.1 (by omega))
theorem PV.val {S T : Row} (hG : Good S) (st : Sta S T) (h : PV T) {B : Int} (hB : PB T B) (hall : ∀ j, j < nJ S → nxt T j = nO S j) : Val T 3 B := by
  have hset : ∀ j o, Live T j o → sP T (5 * j + o) ≠ -1 := by
    intro j o hl
    have hl2 := (st.live hG _ _).mp hl
    exact (nxt_nx T j).2.1 o (by rw [hall j (nJ_lt.mpr hl2.1)]; exact nO_lt.mpr hl2.2)
  have e : ∀ i, T (23 + 3 + 4 * i) = sP T i := fun i => rfl
  refine ⟨fun j o hl => ?_, fun j o hl => ?_, fun j o j' o' hl hl' hm hne => ?_⟩
  · rw [e]
    have h1 := h.1 j o hl
    have h2 := hB j o hl
    have h3 := hset j o hl
    omega
  · rw [e, e]; exact (h.2.1 j o hl (hset j (o + 1) hl)).2
  · rw [e, e]; exact h.2.2 j o j' o' hl hl' hm hne (hset j o hl) (hset j' o' hl')
theorem clr_pv {T : Row} (h : Clr T) : PV T := ⟨fun j o hl => Or.inl (h j o hl), fun j o hl hne => absurd (h j (o + 1) hl) hne, fun j o _ _ hl _ _ _ h1 _ => absurd (h j o hl) h1⟩
theorem fill0_val {S : Row} (hG : Good S) (rule : Int) : Val (fillM rule 0 30 (clrS S)) 3 1150 := by
  have st := (clrS_staP S).sta
  have hcl := clrS_clr hG
  obtain ⟨h1, h2, h3⟩ := fill0_ok hG rule
  exact (fillM_pv (rule := rule) (moment := 0) (by omega) 30 (clrS S) (st.good hG) 550 (fun j o hl => by rw [hcl j o hl]; omega) (by omega) (by omega) (by omega) hcl.pfx (clr_pv hcl)).val hG h2.sta h1 h3
theorem kpS_pv {S : Row} (hG : Good S) {B : Int} (hV : Val S 3 B) (moment : Int) : PV (kpS S moment) := by
  have st := (kpS_staP S moment).sta
  have e : ∀ i, S (23 + 3 + 4 * i) = sP S i := fun i => rfl
  refine ⟨fun j o hl => ?_, fun j o hl hne => ?_, fun j o j' o' hl hl' hm hne h1 h2 => ?_⟩
  · have hl2 := (st.live hG _ _).mp hl
    rw [kpS_live hG hl2]
    have := (hV.pp j o hl2).1
    split <;> omega
  · have hl2 := (st.live hG _ _).mp hl
    have hl3 : Live S j o := ⟨hl2.1, by have := hl2.2; omega⟩
    rw [kpS_live hG hl2] at hne ⊢
    rw [kpS_live hG hl3, st.u]
    by_cases c : o + 1 < kp S moment j
    · rw [if_pos c, if_pos (by omega)]
      have h1 := hV.2.1 j o hl2
      rw [e, e] at h1
      have := (hV.pp j o hl3).1
      omega
    · rw [if_neg c] at hne; exact absurd rfl hne
  · have hl2 := (st.live hG _ _).mp hl
    have hl2' := (st.live hG _ _).mp hl'
    rw [st.m, st.m] at hm
    rw [kpS_live hG hl2] at h1 ⊢
    rw [kpS_live hG hl2'] at h2 ⊢
    rw [st.u, st.u]
    by_cases c : o < kp S moment j
    · by_cases c' : o' < kp S moment j'
      · rw [if_pos c, if_pos c']
        have := hV.2.2 j o j' o' hl2 hl2' hm hne
        rw [e, e] at this
        exact this
      · rw [if_neg c'] at h2; exact absurd rfl h2
    · rw [if_neg c] at h1; exact absurd rfl h1
theorem kpS_pfx {S : Row} (hG : Good S) {B : Int} (hP : PP S B) (moment : Int) : Pfx (kpS S moment) := by
  have ek : tkS S moment (nJ S) 0 = kpS S moment := by
    unfold tkS kpS
    refine mapS_congr (fun j' o' hl => ?_)
    have hj' := nJ_lt.mpr hl.1
    by_cases c : o' < kp S moment j'
    · rw [if_pos (by omega), if_pos c]
    · rw [if_neg (by omega), if_neg c]
  rw [← ek]
  exact tkS_pfx hG hP (Nat.zero_le _)
theorem paS_ok {S : Row} (hG : Good S) {B : Int} (hV : Val S 3 B) {moment rule : Int} (hm : 0 ≤ moment ∧ moment ≤ B) (hB2 : 550 ≤ B ∧ B ≤ 700000) : StaP S (paS S moment rule) ∧ Val (paS S moment rule) 3 (B + 600) := by
  have st := kpS_staP S moment
  have hpb := kpS_pb hG hV.pp moment (by omega)
  obtain ⟨h1, h2, h3⟩ := fillM_ok (S := kpS S moment) (st.sta.good hG) hpb (rule := rule) hm hB2
  refine ⟨st.trans h2, ?_⟩
  have hpv := fillM_pv (rule := rule) (moment := moment) (by omega) 30 (kpS S moment) (st.sta.good hG) B hpb hm.2 hB2.1 (by omega) (kpS_pfx hG hV.pp moment) (kpS_pv hG hV moment)
  exact hpv.val hG (st.trans h2).sta h1 (fun j hj => by
    have := h3 j (by rw [st.sta.nj]; exact hj)
    rw [st.sta.no (hG.j6 (nJ_lt.mp hj))] at this
    exact this)
/-- a shifted plan is a plan -/
theorem sh_val {S R : Row} (hG : Good S) {β M : Int} (hV : VO S β) (stP : StaP S R) {q : Nat → Nat → Int} (hq : ShEq S q) (hR : ∀ j o, Live S j o → sP R (5 * j + o) = q j o) (hM : ∀ j o, Live S j o → q j o ≤ M) : Val R 3 M := by
  have st := stP.sta
  have e : ∀ i, R (23 + 3 + 4 * i) = sP R i := fun i => rfl
  have hlo : ∀ j o, Live S j o → sL S (5 * j + o) ≤ q j o := by
    intro j o hl
    obtain ⟨m, h1, h2⟩ := hq j o hl
    have := h1.1; have := h2.1; omega
  have dep : ∀ j o j' o', Live S j o → Live S j' o' → ((j' = j ∧ o' + 1 = o) ∨ (sM S (5 * j' + o') = sM S (5 * j + o) ∧ sL S (5 * j' + o') < sL S (5 * j + o))) → q j' o' + sU S (5 * j' + o') ≤ q j o := by
    intro j o j' o' hl hl' hd
    obtain ⟨m, h1, h2⟩ := hq j o hl
    have h3 := h1.2.1 _ ⟨j', o', nJ_lt.mpr hl'.1, nO_lt.mpr hl'.2, hd, rfl⟩
    have := h2.1
    omega
  refine ⟨fun j o hl => ?_, fun j o hl => ?_, fun j o j' o' hl hl' hm hne => ?_⟩
  · have hl2 := (st.live hG _ _).mp hl
    rw [e, hR j o hl2]
    have := hlo j o hl2; have := (hV.1 j o hl2).1; have := hM j o hl2
    omega
  · have hl2 := (st.live hG _ _).mp hl
    have hl3 : Live S j o := ⟨hl2.1, by have := hl2.2; omega⟩
    rw [e, e, hR j o hl3, hR j (o + 1) hl2, st.u]
    exact dep j (o + 1) j o hl2 hl3 (Or.inl ⟨rfl, rfl⟩)
  · have hl2 := (st.live hG _ _).mp hl
    have hl2' := (st.live hG _ _).mp hl'
    rw [st.m, st.m] at hm
    rw [e, e, hR j o hl2, hR j' o' hl2', st.u, st.u]
    have h1 := hV.2.2 j o j' o' hl2 hl2' hm hne
    by_cases c : sL S (5 * j + o) < sL S (5 * j' + o')
    · exact Or.inl (dep j' o' j o hl2' hl2 (Or.inr ⟨hm, c⟩))
    · exact Or.inr (dep j o j' o' hl2 hl2' (Or.inr ⟨hm.symm, by omega⟩))
