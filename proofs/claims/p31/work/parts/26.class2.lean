/-! ===== 26: the class's drafts and its fill ===== -/
def Pfx (T : Row) : Prop := ∀ j o, Live T j o → nxt T j ≤ o → sP T (5 * j + o) = -1
/-- the ends on machine m -/
def onM (T : Row) (m : Int) (t : Int) : Prop := ∃ j o, j < nJ T ∧ o < nO T j ∧ (sM T (5 * j + o) = m ∧ sP T (5 * j + o) ≠ -1) ∧ t = sP T (5 * j + o) + sU T (5 * j + o)
/-- the planner's draft holds the present starts of the row T -/
def DR (σ : zSt) (T : Row) : Prop := (∀ j : Nat, (j : Int) < T 1 → σ 61 j = ((nxt T j : Nat) : Int) ∧ ∀ o : Nat, o < nxt T j → σ 60 (5 * j + o) = sP T (5 * j + o)) ∧ ∀ m : Nat, m < 5 → Mx 0 (onM T (m : Int)) (σ 62 m)
def Fr3 (σ σ' : zSt) : Prop := ∀ k : Nat, k ≠ 60 → k ≠ 61 → k ≠ 62 → σ' k = σ k
theorem Fr3.rf (σ : zSt) : Fr3 σ σ := fun _ _ _ _ => rfl
theorem Fr3.trans {σ σ' σ'' : zSt} (h : Fr3 σ σ') (h' : Fr3 σ' σ'') : Fr3 σ σ'' := fun k a b c => (h' k a b c).trans (h k a b c)
theorem Fr3.shop {σ σ' : zSt} (h : Fr3 σ σ') : SameShop σ σ' := by
  have e := h 2 (by decide) (by decide) (by decide)
  exact ⟨by rw [e], by rw [e], by rw [e], fun k a b => h k (by omega) (by omega) (by omega)⟩
theorem zup_fr3 {σ : zSt} {k i : Nat} {v : Int} (hk : k = 60 ∨ k = 61 ∨ k = 62) : Fr3 σ (zup σ k i v) := fun k' a b c => by
  funext j
  exact zup_ne (by omega) j
theorem CS.j {σ : zSt} {S : Row} (h : CS σ S) {j : Nat} (hj : j < 6) : σ 10 j = rW S j ∧ σ 11 j = rD S j ∧ σ 12 j = rO S j := h.2.1 j hj
theorem zup_at (σ : zSt) (k j : Nat) (v : Int) : zup σ k j v k j = v := by simp [zup]
theorem zup_oth (σ : zSt) {k j k' j' : Nat} (v : Int) (h : k' ≠ k ∨ j' ≠ j) : zup σ k j v k' j' = σ k' j' := by
  unfold zup
  rw [if_neg (by omega)]
theorem s141 {σ : zSt} {m : Nat} (hm : m < 5) : zE 141 0 [some (zR 1), some (zI m)] [] σ = zRI (σ 62 m) σ := by
  rw [X141_0, if_neg (by omega), if_pos (by omega), zgd_pos (by omega), toNat_n]
theorem s140 {σ : zSt} {T : Row} (hC : CS σ T) (hD : DR σ T) (hG : Good T) {B : Int} (hB : PB T B) (hB2 : 0 ≤ B ∧ B ≤ 800000) {j : Nat} (hj : (j : Int) < T 1) (hlt : nxt T j < nO T j) {moment : Int} (hm : 0 ≤ moment) : zE 140 0 [some (zR 1), some (zI j), some (zI moment), none, none] [] σ = zRI (bse T j (nxt T j) moment) σ := by
  have hj6 := hG.j6 hj
  have hl : Live T j (nxt T j) := ⟨hj, nO_lt.mp hlt⟩
  have ho5 := hG.o5 hl
  obtain ⟨⟨m1, m2⟩, u1, u2⟩ := hG.2.2.1 j _ hj hl.2
  obtain ⟨c1, c2⟩ := hC.2.2.1 (5 * j + nxt T j) (by omega)
  obtain ⟨d1, d2⟩ := hD.1 j hj
  obtain ⟨m, hm5⟩ : ∃ m : Nat, (m : Int) = sM T (5 * j + nxt T j) := ⟨(sM T (5 * j + nxt T j)).toNat, by omega⟩
  have hmx := hD.2 m (by omega)
  have hb := bse_mx (S := T) (j := j) (o := nxt T j) (moment := moment)
  rw [X140_0, zgd_pos (by omega), toNat_n, d1, s35 (by omega) (by omega), zbI_some, zgd_pos (by omega), toNat_n, c1, ← hm5, s141 (by omega), zbI_some, zgd_pos (by omega), d1]
  by_cases h0 : nxt T j = 0
  · rw [if_pos (by omega)]
    rw [if_pos h0] at hb
    have h1 := (hmx.base hm).uniq (hb.congr (fun t => by unfold onM; rw [hm5]))
    rw [h1]
  · have hl2 : Live T j (nxt T j - 1) := ⟨hj, by have := hl.2; omega⟩
    have h1 := hB j _ hl2
    have h2 := (hG.2.2.1 j _ hj hl2.2).2
    have h3 := (hC.2.2.1 (5 * j + (nxt T j - 1)) (by omega)).2
    have e1 : zw (((5 * j + nxt T j : Nat) : Int) - 1) = ((5 * j + (nxt T j - 1) : Nat) : Int) := by rw [zw_id (by omega) (by omega)]; omega
    rw [if_neg (by omega), e1, zgd_pos (by omega), zgd_pos (by omega), toNat_n, d2 (nxt T j - 1) (by omega), h3, zw_id (by omega) (by omega)]
    rw [if_neg h0] at hb
    have h4 := (hmx.base (b' := max moment (sP T (5 * j + (nxt T j - 1)) + sU T (5 * j + (nxt T j - 1)))) (by omega)).uniq (hb.congr (fun t => by unfold onM; rw [hm5]))
    rw [← h4]
    congr 5
    omega
/-- what setStart leaves -/
def sts (σ : zSt) (j i m : Nat) (t u : Int) (n : Nat) : zSt := zup (zup (zup σ 60 i t) 62 m (max (σ 62 m) (t + u))) 61 j ((n : Nat) : Int)
theorem s142 {σ : zSt} {T : Row} (hC : CS σ T) (hD : DR σ T) (hG : Good T) {j : Nat} (hj : (j : Int) < T 1) (hlt : nxt T j < nO T j) {t : Int} (ht : 0 ≤ t ∧ t ≤ 900000) : zE 142 0 [some (zR 1), some (zI j), some (zI t), none, none] [] σ = zRV (sts σ j (5 * j + nxt T j) (sM T (5 * j + nxt T j)).toNat t (sU T (5 * j + nxt T j)) (nxt T j + 1)) := by
  have hj6 := hG.j6 hj
  have hl : Live T j (nxt T j) := ⟨hj, nO_lt.mp hlt⟩
  have ho5 := hG.o5 hl
  obtain ⟨⟨m1, m2⟩, u1, u2⟩ := hG.2.2.1 j _ hj hl.2
  obtain ⟨c1, c2⟩ := hC.2.2.1 (5 * j + nxt T j) (by omega)
  obtain ⟨d1, d2⟩ := hD.1 j hj
  obtain ⟨m, hm5⟩ : ∃ m : Nat, (m : Int) = sM T (5 * j + nxt T j) := ⟨(sM T (5 * j + nxt T j)).toNat, by omega⟩
  have e14 : (zup σ 60 (5 * j + nxt T j) t) 14 (5 * j + nxt T j) = sU T (5 * j + nxt T j) := by rw [zup_oth _ _ (by omega)]; exact c2
  have e62 : (zup σ 60 (5 * j + nxt T j) t) 62 m = σ 62 m := zup_oth _ _ (by omega)
  rw [X142_0, zgd_pos (by omega), toNat_n, d1, s35 (by omega) (by omega), zbI_some, zgd_pos (by omega), zgd_pos (by omega), toNat_n, c1, ← hm5, if_neg (by omega), if_pos (by omega), zgd_pos (by omega), zgd_pos (by omega), zgd_pos (by omega), X142_68, zgd_pos (by omega), zgd_pos (by omega), toNat_n, toNat_n, e14, e62, zw_id (x := t + sU T (5 * j + nxt T j)) (by omega) (by omega)]
  have e61 : (zup (zup σ 60 (5 * j + nxt T j) t) 62 m (max (σ 62 m) (t + sU T (5 * j + nxt T j)))) 61 j = ((nxt T j : Nat) : Int) := by
    rw [zup_oth _ _ (by omega), zup_oth _ _ (by omega)]; exact d1
  rw [e61, zw_nat1 (by omega)]
  rfl
theorem sts_fr {σ : zSt} {j i m : Nat} {t u : Int} {n : Nat} : Fr3 σ (sts σ j i m t u n) := (zup_fr3 (Or.inl rfl)).trans ((zup_fr3 (Or.inr (Or.inr rfl))).trans (zup_fr3 (Or.inr (Or.inl rfl))))
theorem nxt_set {T : Row} (hG : Good T) (hP : Pfx T) {j : Nat} (hj : (j : Int) < T 1) (hlt : nxt T j < nO T j) {t : Int} (ht : t ≠ -1) : nxt (setP T (5 * j + nxt T j) t) j = nxt T j + 1 ∧ ∀ j' : Nat, (j' : Int) < T 1 → j' ≠ j → nxt (setP T (5 * j + nxt T j) t) j' = nxt T j' := by
  have hj6 := hG.j6 hj
  have hl : Live T j (nxt T j) := ⟨hj, nO_lt.mp hlt⟩
  have ho5 := hG.o5 hl
  have st := (setP_sta (S := T) (i := 5 * j + nxt T j) (v := t) (by omega)).sta
  have hn := nxt_nx T j
  refine ⟨nxt_eq ⟨by rw [st.no hj6]; omega, fun o ho => ?_, fun q => ?_⟩, fun j' hj' hne => ?_⟩
  · rw [sP_set]
    by_cases c : 5 * j + o = 5 * j + nxt T j
    · rw [if_pos c]; exact ht
    · rw [if_neg c]; exact hn.2.1 o (by omega)
  · rw [st.no hj6] at q
    rw [sP_set, if_neg (by omega)]
    exact hP j (nxt T j + 1) ⟨hj, nO_lt.mp q⟩ (by omega)
  · have hj6' := hG.j6 hj'
    have hn' := nxt_nx T j'
    have hno : nO T j' ≤ 5 := by have := (hG.2.1 j' hj').2.2; unfold nO; omega
    refine nxt_eq ⟨by rw [st.no hj6']; exact hn'.1, fun o ho => ?_, fun q => ?_⟩
    · rw [sP_set, if_neg (by have := hn'.1; omega)]
      exact hn'.2.1 o ho
    · rw [st.no hj6'] at q
      rw [sP_set, if_neg (by omega)]
      exact hn'.2.2 q
theorem pfx_set {T : Row} (hG : Good T) (hP : Pfx T) {j : Nat} (hj : (j : Int) < T 1) (hlt : nxt T j < nO T j) {t : Int} (ht : t ≠ -1) : Pfx (setP T (5 * j + nxt T j) t) := by
  have hj6 := hG.j6 hj
  have hl : Live T j (nxt T j) := ⟨hj, nO_lt.mp hlt⟩
  have ho5 := hG.o5 hl
  have st := (setP_sta (S := T) (i := 5 * j + nxt T j) (v := t) (by omega)).sta
  obtain ⟨h1, h2⟩ := nxt_set hG hP hj hlt ht
  intro j' o' hl' hle
  have hl2 := (st.live hG j' o').mp hl'
  have ho5' := hG.o5 hl2
  rw [sP_set]
  by_cases e : j' = j
  · subst e
    rw [h1] at hle
    rw [if_neg (by omega)]
    exact hP j' o' hl2 (by omega)
  · rw [h2 j' hl2.1 e] at hle
    rw [if_neg (by omega)]
    exact hP j' o' hl2 hle
theorem DR_set {σ : zSt} {T : Row} (hD : DR σ T) (hG : Good T) (hP : Pfx T) {j : Nat} (hj : (j : Int) < T 1) (hlt : nxt T j < nO T j) {t : Int} (ht : 0 ≤ t) : DR (sts σ j (5 * j + nxt T j) (sM T (5 * j + nxt T j)).toNat t (sU T (5 * j + nxt T j)) (nxt T j + 1)) (setP T (5 * j + nxt T j) t) := by
  have hj6 := hG.j6 hj
  have hl : Live T j (nxt T j) := ⟨hj, nO_lt.mp hlt⟩
  have ho5 := hG.o5 hl
  obtain ⟨⟨m1, m2⟩, u1, u2⟩ := hG.2.2.1 j _ hj hl.2
  have st := (setP_sta (S := T) (i := 5 * j + nxt T j) (v := t) (by omega)).sta
  obtain ⟨h1, h2⟩ := nxt_set hG hP hj hlt (t := t) (by omega)
  have hun := (nxt_nx T j).2.2 hlt
  unfold sts
  refine ⟨fun j' hj' => ?_, fun m' hm' => ?_⟩
  · rw [st.k1] at hj'
    have hj6' := hG.j6 hj'
    by_cases e : j' = j
    · subst e
      rw [h1]
      refine ⟨zup_at _ _ _ _, fun o ho => ?_⟩
      rw [zup_oth _ _ (by omega), zup_oth _ _ (by omega), sP_set]
      by_cases c : o = nxt T j'
      · subst c
        rw [zup_at, if_pos rfl]
      · rw [zup_oth _ _ (by omega), if_neg (by omega)]
        exact (hD.1 j' hj').2 o (by omega)
    · rw [h2 j' hj' e]
      refine ⟨?_, fun o ho => ?_⟩
      · rw [zup_oth _ _ (by omega), zup_oth _ _ (by omega), zup_oth _ _ (by omega)]
        exact (hD.1 j' hj').1
      · have hno : nO T j' ≤ 5 := by have := (hG.2.1 j' hj').2.2; unfold nO; omega
        have := (nxt_nx T j').1
        rw [zup_oth _ _ (by omega), zup_oth _ _ (by omega), zup_oth _ _ (by omega), sP_set, if_neg (by omega)]
        exact (hD.1 j' hj').2 o ho
  · have hmx := hD.2 m' hm'
    rw [zup_oth _ _ (by omega)]
    have same : ∀ x, onM (setP T (5 * j + nxt T j) t) (m' : Int) x ↔ (onM T (m' : Int) x ∨ (sM T (5 * j + nxt T j) = (m' : Int) ∧ x = t + sU T (5 * j + nxt T j))) := by
      intro x
      constructor
      · rintro ⟨j', o', q1, q2, ⟨q3, q4⟩, q5⟩
        rw [st.nj] at q1
        have hj6' := hG.j6 (nJ_lt.mp q1)
        rw [st.no hj6'] at q2
        rw [st.m] at q3
        rw [sP_set] at q4 q5
        rw [st.u] at q5
        by_cases c : 5 * j' + o' = 5 * j + nxt T j
        · rw [if_pos c] at q5
          rw [c] at q3 q5
          exact Or.inr ⟨q3, q5⟩
        · rw [if_neg c] at q4 q5
          exact Or.inl ⟨j', o', q1, q2, ⟨q3, q4⟩, q5⟩
      · rintro (⟨j', o', q1, q2, ⟨q3, q4⟩, q5⟩ | ⟨q3, q5⟩)
        · have hj6' := hG.j6 (nJ_lt.mp q1)
          have hne : 5 * j' + o' ≠ 5 * j + nxt T j := fun c => q4 (by rw [c]; exact hun)
          refine ⟨j', o', by rw [st.nj]; exact q1, by rw [st.no hj6']; exact q2, ⟨by rw [st.m]; exact q3, ?_⟩, ?_⟩
          · rw [sP_set, if_neg hne]; exact q4
          · rw [sP_set, if_neg hne, st.u]; exact q5
        · refine ⟨j, nxt T j, by rw [st.nj]; exact nJ_lt.mpr hj, by rw [st.no hj6]; exact hlt, ⟨by rw [st.m]; exact q3, ?_⟩, ?_⟩
          · rw [sP_set, if_pos rfl]; omega
          · rw [sP_set, if_pos rfl, st.u]; exact q5
    by_cases c : m' = (sM T (5 * j + nxt T j)).toNat
    · have c2 : sM T (5 * j + nxt T j) = (m' : Int) := by omega
      rw [← c, zup_at]
      refine (hmx.add (t := t + sU T (5 * j + nxt T j))).congr (fun x => ?_)
      rw [same x]
      constructor
      · rintro (q | q)
        · exact Or.inl q
        · exact Or.inr ⟨c2, q⟩
      · rintro (q | q)
        · exact Or.inl q
        · exact Or.inr q.2
    · rw [zup_oth _ _ (by omega), zup_oth _ _ (by omega)]
      refine hmx.congr (fun x => ?_)
      rw [same x]
      constructor
      · exact fun q => Or.inl q
      · rintro (q | q)
        · exact q
        · exact absurd (by have := q.1; omega) c
theorem s143 {σ : zSt} {T : Row} (hC : CS σ T) (hD : DR σ T) (hG : Good T) {j : Nat} (hj : (j : Int) < T 1) (hlt : nxt T j < nO T j) (rule : Int) : zE 143 0 [some (zR 1), some (zI j), some (zI rule)] [] σ = zRI (rk T rule j (nxt T j)) σ := by
  have hj6 := hG.j6 hj
  have hl : Live T j (nxt T j) := ⟨hj, nO_lt.mp hlt⟩
  have ho5 := hG.o5 hl
  obtain ⟨c1, c2⟩ := hC.2.2.1 (5 * j + nxt T j) (by omega)
  obtain ⟨a1, a2, a3⟩ := hC.j hj6
  obtain ⟨d1, d2⟩ := hD.1 j hj
  have h1 := hG.2.1 j hj
  have h2 := hl.2
  rw [X143_0]
  unfold rk
  by_cases e0 : rule = 0
  · rw [if_pos e0, if_pos e0, zgd_pos (by omega), toNat_n, d1, s35 (by omega) (by omega), zbI_some, zgd_pos (by omega), toNat_n, c2]
  rw [if_neg e0, if_neg e0]
  by_cases e1 : rule = 1
  · rw [if_pos e1, if_pos e1, zgd_pos (by omega), toNat_n, a2]
  rw [if_neg e1, if_neg e1]
  by_cases e2 : rule = 2
  · rw [if_pos e2, if_pos e2, zgd_pos (by omega), toNat_n, a1, zw_id (by omega) (by omega)]
  · rw [if_neg e2, if_neg e2, zgd_pos (by omega), zgd_pos (by omega), toNat_n, a3, d1, zw_id (by omega) (by omega)]
