/-! ===== 30: the class's draft from a moment on ===== -/
theorem mapS_congr {S : Row} {q : Nat} {g g' : Nat → Nat → Int} (h : ∀ j o, Live S j o → g j o = g' j o) : mapS S q g = mapS S q g' := by
  unfold mapS
  funext k
  unfold mapB
  by_cases c : 23 + q ≤ k ∧ k < 143 + q ∧ (k - (23 + q)) % 4 = 0 ∧ ((((k - (23 + q)) / 4 / 5 : Nat) : Int) < S 1 ∧ (((k - (23 + q)) / 4 % 5 : Nat) : Int) < rO S ((k - (23 + q)) / 4 / 5)) ∧ ((k - (23 + q)) / 4 / 5 < nJ S ∨ ((k - (23 + q)) / 4 / 5 = nJ S ∧ (k - (23 + q)) / 4 % 5 < 0))
  · rw [if_pos c, if_pos c]
    exact h _ _ c.2.2.2.1
  · rw [if_neg c, if_neg c]
theorem nxt_congr {T K : Row} (hG : Good T) (st : Sta T K) (hp : ∀ j o, Live T j o → sP K (5 * j + o) = sP T (5 * j + o)) {j : Nat} (hj : (j : Int) < T 1) : nxt K j = nxt T j := by
  have hj6 := hG.j6 hj
  have hn := nxt_nx T j
  refine nxt_eq ⟨by rw [st.no hj6]; exact hn.1, fun o ho => ?_, fun q => ?_⟩
  · rw [hp j o ⟨hj, nO_lt.mp (by have := hn.1; omega)⟩]; exact hn.2.1 o ho
  · rw [st.no hj6] at q
    rw [hp j _ ⟨hj, nO_lt.mp q⟩]; exact hn.2.2 q
theorem DR.congr {σ : zSt} {T K : Row} (h : DR σ T) (hG : Good T) (st : Sta T K) (hp : ∀ j o, Live T j o → sP K (5 * j + o) = sP T (5 * j + o)) : DR σ K := by
  refine ⟨fun j hj => ?_, fun m hm => ?_⟩
  · rw [st.k1] at hj
    rw [nxt_congr hG st hp hj]
    refine ⟨(h.1 j hj).1, fun o ho => ?_⟩
    rw [hp j o ⟨hj, nO_lt.mp (by have := (nxt_nx T j).1; omega)⟩]
    exact (h.1 j hj).2 o ho
  · refine (h.2 m hm).congr (fun t => ?_)
    constructor
    · rintro ⟨j, o, q1, q2, ⟨q3, q4⟩, q5⟩
      have hl := liveN q1 q2
      exact ⟨j, o, by rw [st.nj]; exact q1, by rw [st.no (hG.j6 hl.1)]; exact q2, ⟨by rw [st.m]; exact q3, by rw [hp j o hl]; exact q4⟩, by rw [hp j o hl, st.u]; exact q5⟩
    · rintro ⟨j, o, q1, q2, ⟨q3, q4⟩, q5⟩
      rw [st.nj] at q1
      have hj6 := hG.j6 (nJ_lt.mp q1)
      rw [st.no hj6] at q2
      have hl := liveN q1 q2
      rw [st.m] at q3
      rw [hp j o hl] at q4 q5
      rw [st.u] at q5
      exact ⟨j, o, q1, q2, ⟨q3, q4⟩, q5⟩
/-- the kept ones of the jobs before j, and of job j those before o -/
noncomputable def tkS (S : Row) (moment : Int) (j o : Nat) : Row := mapS S 3 (fun j' o' => if (j' < j ∧ o' < kp S moment j') ∨ (j' = j ∧ o' < o) then sP S (5 * j' + o') else -1)
theorem tkS_staP (S : Row) (moment : Int) (j o : Nat) : StaP S (tkS S moment j o) := by
  unfold tkS mapS
  exact mapB_staP
theorem tkS_live {S : Row} (hG : Good S) {moment : Int} {j o j' o' : Nat} (hl : Live S j' o') : sP (tkS S moment j o) (5 * j' + o') = if (j' < j ∧ o' < kp S moment j') ∨ (j' = j ∧ o' < o) then sP S (5 * j' + o') else -1 := by
  have h := mapS_live (S := S) (q := 3) (g := fun j' o' => if (j' < j ∧ o' < kp S moment j') ∨ (j' = j ∧ o' < o) then sP S (5 * j' + o') else -1) hG hl
  exact h
theorem tkS_nxt {S : Row} (hG : Good S) {B : Int} (hP : PP S B) {moment : Int} {j o : Nat} (ho : o ≤ nO S j) (hj : (j : Int) < S 1) : nxt (tkS S moment j o) j = o := by
  have st := (tkS_staP S moment j o).sta
  have hj6 := hG.j6 hj
  refine nxt_eq ⟨by rw [st.no hj6]; exact ho, fun o' ho' => ?_, fun q => ?_⟩
  · have hl : Live S j o' := ⟨hj, nO_lt.mp (by omega)⟩
    rw [tkS_live hG hl, if_pos (by omega)]
    have := hP j o' hl; omega
  · rw [st.no hj6] at q
    rw [tkS_live hG ⟨hj, nO_lt.mp q⟩, if_neg (by omega)]
theorem tkS_pfx {S : Row} (hG : Good S) {B : Int} (hP : PP S B) {moment : Int} {j o : Nat} (ho : o ≤ nO S j) : Pfx (tkS S moment j o) := by
  have st := (tkS_staP S moment j o).sta
  intro j' o' hl' hle
  have hl := (st.live hG j' o').mp hl'
  have hj6 := hG.j6 hl.1
  by_cases e : j' = j
  · subst e
    rw [tkS_nxt hG hP ho hl.1] at hle
    rw [tkS_live hG hl, if_neg (by omega)]
  · rw [tkS_live hG hl]
    by_cases c : (j' < j ∧ o' < kp S moment j') ∨ (j' = j ∧ o' < o)
    · exfalso
      have hn := nxt_nx (tkS S moment j o) j'
      have hlt : nxt (tkS S moment j o) j' < nO (tkS S moment j o) j' := by
        rw [st.no hj6]
        have := nO_lt.mpr hl.2
        omega
      have h1 := hn.2.2 hlt
      have hl2 : Live S j' (nxt (tkS S moment j o) j') := ⟨hl.1, nO_lt.mp (by rw [← st.no hj6]; exact hlt)⟩
      rw [tkS_live hG hl2, if_pos (by omega)] at h1
      have := hP j' _ hl2
      omega
    · rw [if_neg c]
theorem tkS_set {S : Row} (hG : Good S) {moment : Int} {j o : Nat} (hl : Live S j o) : ∀ j' o', Live (setP (tkS S moment j o) (5 * j + o) (sP S (5 * j + o))) j' o' → sP (tkS S moment j (o + 1)) (5 * j' + o') = sP (setP (tkS S moment j o) (5 * j + o) (sP S (5 * j + o))) (5 * j' + o') := by
  intro j' o' hl'
  have ho5 := hG.o5 hl
  have hj6 := hG.j6 hl.1
  have st1 := (tkS_staP S moment j o).sta
  have st2 := (setP_sta (S := tkS S moment j o) (i := 5 * j + o) (v := sP S (5 * j + o)) (by omega)).sta
  have hl2 := ((st1.trans st2).live hG j' o').mp hl'
  have ho5' := hG.o5 hl2
  rw [sP_set, tkS_live hG hl2]
  by_cases e : 5 * j' + o' = 5 * j + o
  · have e1 : j' = j := by omega
    have e2 : o' = o := by omega
    subst e1; subst e2
    rw [if_pos rfl, if_pos (by omega)]
  · rw [if_neg e, tkS_live hG hl2]
    by_cases c : (j' < j ∧ o' < kp S moment j') ∨ (j' = j ∧ o' < o)
    · rw [if_pos c, if_pos (by omega)]
    · rw [if_neg c, if_neg (by omega)]
theorem s137 {S : Row} (hG : Good S) {B : Int} (hP : PP S B) (hB2 : 0 ≤ B ∧ B ≤ 800000) {moment : Int} {j : Nat} (hj : (j : Int) < S 1) : ∀ (d o : Nat) (σ : zSt) (o4 o5 : Option zVal), o + d = nO S j → o ≤ kp S moment j → CS σ S → (∀ j o, Live S j o → σ 19 (5 * j + o) = sP S (5 * j + o)) → DR σ (tkS S moment j o) →
    ∃ σ', zE 137 2 [some (zR 1), some (zI j), some (zI moment), some (zI (o : Int)), o4, o5] [] σ = zRV σ' ∧ Fr3 σ σ' ∧ DR σ' (tkS S moment j (kp S moment j)) := by
  have hj6 := hG.j6 hj
  have hks := kp_spec S moment j
  have h5 : nO S j ≤ 5 := by have := (hG.2.1 j hj).2.2; unfold nO; omega
  intro d
  induction d with
  | zero =>
    intro o σ o4 o5 hd ho hC hA hD
    have e : o = kp S moment j := by omega
    refine ⟨σ, ?_, Fr3.rf σ, e ▸ hD⟩
    rw [X137_2, zgd_pos (by omega), toNat_n, (hC.j hj6).2.2, if_neg (by unfold nO at hd; omega)]
  | succ d ih =>
    intro o σ o4 o5 hd ho hC hA hD
    have hl : Live S j o := ⟨hj, nO_lt.mp (by omega)⟩
    have ho5 := hG.o5 hl
    have hpp := hP j o hl
    obtain ⟨⟨m1, m2⟩, u1, u2⟩ := hG.2.2.1 j o hj hl.2
    rw [X137_2, zgd_pos (by omega), toNat_n, (hC.j hj6).2.2, if_pos hl.2, s35 (by omega) (by omega), zbI_some, zgd_pos (by omega), toNat_n, hA j o hl]
    by_cases c1 : sP S (5 * j + o) < moment
    · rw [if_pos c1]
      obtain ⟨q1, q2⟩ := s164 hC hG (i := 5 * j + o) (by omega) ⟨u1, u2⟩ (t := sP S (5 * j + o)) (by omega)
      by_cases c2 : Hits S (5 * j + o) (sP S (5 * j + o))
      · rw [q1 c2, zbI_some, if_neg (by decide)]
        have e : o = kp S moment j := by
          refine Decidable.byContradiction (fun hc => ?_)
          exact (hks.2.1 o (by omega)).2 c2
        exact ⟨σ, rfl, Fr3.rf σ, e ▸ hD⟩
      · rw [q2 c2, zbI_some, if_pos rfl]
        have hlt : o < kp S moment j := by
          refine Decidable.byContradiction (fun hc => ?_)
          have e : kp S moment j = o := by omega
          exact hks.2.2 (by omega) (by rw [e]; exact ⟨c1, c2⟩)
        have stP := tkS_staP S moment j o
        have hn := tkS_nxt hG hP (moment := moment) (o := o) (by omega) hj
        have hGT := stP.sta.good hG
        have hnl : nxt (tkS S moment j o) j < nO (tkS S moment j o) j := by rw [hn, stP.sta.no hj6]; omega
        have hjT : (j : Int) < (tkS S moment j o) 1 := by rw [stP.sta.k1]; exact hj
        have e142 := s142 (hC.of stP.sta) hD hGT hjT hnl (t := sP S (5 * j + o)) (by omega)
        have hdr := DR_set hD hGT (tkS_pfx hG hP (by omega)) hjT hnl (t := sP S (5 * j + o)) (by omega)
        rw [e142, zbV_some, zw_nat1 (by omega)]
        rw [hn] at hdr ⊢
        have stS := setP_sta (S := tkS S moment j o) (i := 5 * j + o) (v := sP S (5 * j + o)) (by omega)
        have hdr2 := hdr.congr (stS.sta.good hGT) (K := tkS S moment j (o + 1)) ((stS.sta.symm.trans stP.sta.symm).trans (tkS_staP S moment j (o + 1)).sta) (tkS_set hG hl)
        have hfr := sts_fr (σ := σ) (j := j) (i := 5 * j + o) (m := (sM (tkS S moment j o) (5 * j + o)).toNat) (t := sP S (5 * j + o)) (u := sU (tkS S moment j o) (5 * j + o)) (n := o + 1)
        obtain ⟨σ', a1, a2, a3⟩ := ih (o + 1) _ _ _ (by omega) (by omega) (hC.same hfr.shop) (fun j' o' hl' => by rw [hfr 19 (by decide) (by decide) (by decide)]; exact hA j' o' hl') hdr2
        exact ⟨σ', a1, hfr.trans a2, a3⟩
    · rw [if_neg c1]
      have e : o = kp S moment j := by
        refine Decidable.byContradiction (fun hc => ?_)
        exact c1 (hks.2.1 o (by omega)).1
      exact ⟨σ, rfl, Fr3.rf σ, e ▸ hD⟩
theorem s135 {σ : zSt} {S : Row} (hC : CS σ S) (hG : Good S) {B : Int} (hP : PP S B) {moment rule : Int} (hm : 0 ≤ moment ∧ moment ≤ B) (hB2 : 550 ≤ B ∧ B ≤ 700000) (hA : ∀ j o, Live S j o → σ 19 (5 * j + o) = sP S (5 * j + o)) : ∃ σ', zE 135 0 [some (zR 1), some (zI moment), some (zI rule), none] [] σ = zRV σ' ∧ Fr3 σ σ' ∧ DR σ' (paS S moment rule) := by
  have hcl : Clr (tkS S moment 0 0) := fun j o hl => by
    have hl2 := ((tkS_staP S moment 0 0).sta.live hG j o).mp hl
    rw [tkS_live hG hl2, if_neg (by omega)]
  obtain ⟨σ1, a1, a2, a3⟩ := s136 (σ := σ) hcl ((tkS_staP S moment 0 0).sta.good hG)
  have key : ∀ (d j : Nat) (σ2 : zSt), j + d = nJ S → Fr3 σ σ2 → DR σ2 (tkS S moment j 0) → ∃ σ', zE 135 6 [some (zR 1), some (zI moment), some (zI rule), some (zI (j : Int))] [] σ2 = zRV σ' ∧ Fr3 σ σ' ∧ DR σ' (paS S moment rule) := by
    intro d
    induction d with
    | zero =>
      intro j σ2 hd hf hD
      have hC2 := hC.same hf.shop
      have hgo : ¬ (j : Int) < σ2 2 1 := by rw [hC2.1.2.1]; unfold nJ at hd; omega
      rw [X135_6, if_neg hgo]
      have ek : tkS S moment j 0 = kpS S moment := by
        unfold tkS kpS
        refine mapS_congr (fun j' o' hl => ?_)
        have hj' := nJ_lt.mpr hl.1
        by_cases c : o' < kp S moment j'
        · rw [if_pos (by omega), if_pos c]
        · rw [if_neg (by omega), if_neg c]
      have hpf := tkS_pfx hG hP (moment := moment) (j := j) (o := 0) (Nat.zero_le _)
      rw [ek] at hD hpf
      obtain ⟨σ3, b1, b2, b3⟩ := s138 (hC2.of (kpS_staP S moment).sta) hD ((kpS_staP S moment).sta.good hG) hpf (kpS_pb hG hP moment (by omega)) (rule := rule) hm hB2
      refine ⟨σ3, ?_, hf.trans b2, b3⟩
      rw [b1, zbV_some]
    | succ d ih =>
      intro j σ2 hd hf hD
      have hC2 := hC.same hf.shop
      have hj : (j : Int) < S 1 := nJ_lt.mp (by omega)
      have hj6 := hG.j6 hj
      rw [X135_6, if_pos (by rw [hC2.1.2.1]; exact hj)]
      obtain ⟨σ3, b1, b2, b3⟩ := s137 hG hP (by omega) (moment := moment) hj (nO S j) 0 σ2 none none (by omega) (Nat.zero_le _) hC2 (fun j' o' hl => by rw [hf 19 (by decide) (by decide) (by decide)]; exact hA j' o' hl) hD
      have b1' : zE 137 0 [some (zR 1), some (zI j), some (zI moment), none, none, none] [] σ2 = zRV σ3 := by rw [X137_0]; exact b1
      rw [b1', zbV_some, zw_nat1 (by omega)]
      refine ih (j + 1) σ3 (by omega) (hf.trans b2) ?_
      have ek : tkS S moment j (kp S moment j) = tkS S moment (j + 1) 0 := by
        unfold tkS
        refine mapS_congr (fun j' o' hl => ?_)
        by_cases c : (j' < j ∧ o' < kp S moment j') ∨ (j' = j ∧ o' < kp S moment j)
        · rw [if_pos c, if_pos (by
            rcases c with c | ⟨c1, c2⟩
            · omega
            · subst c1; omega)]
        · rw [if_neg c, if_neg (by
            intro q
            apply c
            by_cases e : j' = j
            · subst e; omega
            · omega)]
      rw [← ek]; exact b3
  obtain ⟨σ', b1, b2, b3⟩ := key (nJ S) 0 σ1 (by omega) a2 a3
  refine ⟨σ', ?_, b2, b3⟩
  rw [X135_0, a1, zbV_some]
  exact b1
