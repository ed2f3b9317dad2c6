/-! ===== 27: the class's fill comes to fillM; new drafts ===== -/
theorem s138_in {σ : zSt} {T : Row} (hC : CS σ T) (hD : DR σ T) (hG : Good T) {B : Int} (hB : PB T B) (hB2 : 0 ≤ B ∧ B ≤ 800000) {rule moment : Int} (hm : 0 ≤ moment ∧ moment ≤ 800000) {j : Nat} (hj : (j : Int) < T 1) (r : Int) (a : Int × Int × Int) (ha : Bst T rule moment j a) (o7 : Option zVal) :
    ∃ d7, zE 138 17 [some (zR 1), some (zI moment), some (zI rule), some (zI r), some (zI a.1), some (zI a.2.1), some (zI (j : Int)), o7] [] σ = zE 138 17 [some (zR 1), some (zI moment), some (zI rule), some (zI r), some (zI (fB T rule moment j a).1), some (zI (fB T rule moment j a).2.1), some (zI ((j + 1 : Nat) : Int)), d7] [] σ := by
  have hj6 := hG.j6 hj
  have w1 : zw ((j : Int) + 1) = ((j + 1 : Nat) : Int) := zw_nat1 (by omega)
  obtain ⟨d1, d2⟩ := hD.1 j hj
  obtain ⟨a1, a2, a3⟩ := hC.j hj6
  have hO := (hG.2.1 j hj).2.2
  rw [X138_17, if_pos (by rw [hC.1.2.1]; exact hj), zgd_pos (by omega), zgd_pos (by omega), toNat_n, d1, a3]
  by_cases hlt : nxt T j < nO T j
  · have hl : Live T j (nxt T j) := ⟨hj, nO_lt.mp hlt⟩
    have ho5 := hG.o5 hl
    have hu := (hG.2.2.1 j _ hj hl.2).2
    have hb := bse_le hG hB hl (moment := moment)
    obtain ⟨t, ht1, ht2⟩ := s163 hC hG (i := 5 * j + nxt T j) (by omega) hu (f := bse T j (nxt T j) moment) (by omega)
    have hte : er T j (nxt T j) moment = t := er_eq ht2
    rw [if_pos hl.2, zgd_pos (by omega), s35 (by omega) (by omega), zbI_some, s140 hC hD hG hB hB2 hj hlt hm.1, zbI_some, ht1, zbI_some, w1]
    by_cases c0 : a.1 = -1
    · rw [if_pos c0, fB_pos ⟨hlt, Or.inl c0⟩, hte]
      exact ⟨_, rfl⟩
    rw [if_neg c0]
    by_cases c1 : t < a.2.1
    · rw [if_pos c1, fB_pos ⟨hlt, Or.inr (Or.inl (by rw [hte]; exact c1))⟩, hte]
      exact ⟨_, rfl⟩
    rw [if_neg c1]
    by_cases c2 : t = a.2.1
    · rw [if_pos c2, s143 hC hD hG hj hlt, zbI_some]
      rcases ha with q | ⟨jb, b1, b2, b3, b4, b5⟩
      · exact absurd q c0
      have hjb : (jb : Int) < T 1 := by omega
      rw [b2, s143 hC hD hG hjb b3, zbI_some]
      by_cases c3 : rk T rule j (nxt T j) < rk T rule jb (nxt T jb)
      · rw [if_pos c3, fB_pos ⟨hlt, Or.inr (Or.inr ⟨by rw [hte]; exact c2, by rw [b5]; exact c3⟩)⟩, hte]
        exact ⟨_, rfl⟩
      · rw [if_neg c3, fB_neg (fun q => by
          rcases q.2 with q | q | ⟨q1, q2⟩
          · exact c0 q
          · rw [hte] at q; exact c1 q
          · rw [b5] at q2; exact c3 q2), b2]
        exact ⟨_, rfl⟩
    · rw [if_neg c2, fB_neg (fun q => by
          rcases q.2 with q | q | ⟨q1, q2⟩
          · exact c0 q
          · rw [hte] at q; exact c1 q
          · rw [hte] at q1; exact c2 q1)]
      exact ⟨_, rfl⟩
  · rw [if_neg (fun q => hlt (nO_lt.mpr q)), w1, fB_neg (fun q => hlt q.1)]
    exact ⟨_, rfl⟩
theorem s138_go {rule moment : Int} (hm : 0 ≤ moment ∧ moment ≤ 800000) : ∀ (n : Nat) (σ : zSt) (T : Row), CS σ T → DR σ T → Good T → Pfx T → ∀ B : Int, PB T B → moment ≤ B → 550 ≤ B → B + 20 * n ≤ 800000 → ∀ (r : Nat) (o4 o5 o6 o7 : Option zVal), r + n = 30 →
    ∃ σ', zE 138 2 [some (zR 1), some (zI moment), some (zI rule), some (zI (r : Int)), o4, o5, o6, o7] [] σ = zRV σ' ∧ Fr3 σ σ' ∧ DR σ' (fillM rule moment n T) := by
  intro n
  induction n with
  | zero =>
    intro σ T hC hD hG hP B hB hB1 hB3 hB2 r o4 o5 o6 o7 hr
    refine ⟨σ, ?_, Fr3.rf σ, hD⟩
    rw [X138_2, if_neg (by omega)]
  | succ n ih =>
    intro σ T hC hD hG hP B hB hB1 hB3 hB2 r o4 o5 o6 o7 hr
    have hbst := bstO_bst T rule moment
    have hfm : fillM rule moment (n + 1) T = if (bstO T rule moment).1 = -1 then T else fillM rule moment n (setP T (5 * (bstO T rule moment).1.toNat + nxt T (bstO T rule moment).1.toNat) (bstO T rule moment).2.1) := rfl
    have loop : ∀ X, (∀ (o7 : Option zVal), zE 138 17 [some (zR 1), some (zI moment), some (zI rule), some (zI (r : Int)), some (zI (bstO T rule moment).1), some (zI (bstO T rule moment).2.1), some (zI ((nJ T : Nat) : Int)), o7] [] σ = X) → zE 138 17 [some (zR 1), some (zI moment), some (zI rule), some (zI (r : Int)), some (zI (-1)), some (zI 0), some (zI 0), o7] [] σ = X := by
      intro X h2
      refine ((zloop1 (D := Option zVal) (nJ T) (fB T rule moment) (fun j a d => zE 138 17 [some (zR 1), some (zI moment), some (zI rule), some (zI (r : Int)), some (zI a.1), some (zI a.2.1), some (zI (j : Int)), d] [] σ)
        (fun a => X) (fun j a => a = f1 (fB T rule moment) j (-1, 0, 0)) ?_ ?_ (-1, 0, 0) o7 rfl).1)
      · intro j a d hj ha
        obtain ⟨d7, h⟩ := s138_in hC hD hG hB (by omega) (rule := rule) hm (nJ_lt.mp hj) (r : Int) a (by rw [ha]; exact f1_bst j) d
        exact ⟨⟨d7, h⟩, by rw [ha]; rfl⟩
      · intro a d ha
        have ha2 : a = bstO T rule moment := ha
        subst ha2
        exact h2 d
    rw [X138_2, if_pos (by omega)]
    by_cases hx : (bstO T rule moment).1 = -1
    · rw [hfm, if_pos hx]
      refine ⟨σ, loop _ (fun o7' => ?_), Fr3.rf σ, hD⟩
      rw [X138_17, if_neg (by rw [hC.1.2.1]; unfold nJ; omega), if_pos hx]
    · rcases hbst with q | ⟨j, h1, h2, h3, h4, h5⟩
      · exact absurd q hx
      have hj := nJ_lt.mp h1
      have hj6 := hG.j6 hj
      have hl : Live T j (nxt T j) := ⟨hj, nO_lt.mp h3⟩
      have ho5 := hG.o5 hl
      have hu := (hG.2.2.1 j _ hj hl.2).2
      have e4 := bse_le hG hB hl (moment := moment)
      obtain ⟨t, ht1, ht2⟩ := s163 hC hG (i := 5 * j + nxt T j) (by omega) hu (f := bse T j (nxt T j) moment) (by omega)
      have hte : er T j (nxt T j) moment = t := er_eq ht2
      have hub : t ≤ max (bse T j (nxt T j) moment) 550 := by
        refine Decidable.byContradiction (fun hc => ?_)
        obtain ⟨b, q1, q2⟩ := ht2.2.2 (max (bse T j (nxt T j) moment) 550) (by omega) (by omega)
        obtain ⟨g1, g2, g3⟩ := hG.2.2.2 b q1
        have := q2.2.1
        omega
      have e5 := ht2.1
      have hjt : (bstO T rule moment).1.toNat = j := by omega
      rw [hfm, if_neg hx, hjt]
      have st := setP_sta (S := T) (i := 5 * j + nxt T j) (v := (bstO T rule moment).2.1) (by omega)
      have hpb : PB (setP T (5 * j + nxt T j) (bstO T rule moment).2.1) (B + 20) := by
        intro j' o' hl'
        rw [sP_set]
        by_cases c : 5 * j' + o' = 5 * j + nxt T j
        · rw [if_pos c]; omega
        · rw [if_neg c]
          have := hB j' o' ((st.sta.live hG j' o').mp hl')
          omega
      have e8 := s142 hC hD hG hj h3 (t := (bstO T rule moment).2.1) (by omega)
      have hfr := sts_fr (σ := σ) (j := j) (i := 5 * j + nxt T j) (m := (sM T (5 * j + nxt T j)).toNat) (t := (bstO T rule moment).2.1) (u := sU T (5 * j + nxt T j)) (n := nxt T j + 1)
      have hdr := DR_set hD hG hP hj h3 (t := (bstO T rule moment).2.1) (by omega)
      have hcs := (hC.same hfr.shop).of st.sta
      have fin : ∀ o7' : Option zVal, ∃ σ', zE 138 2 [some (zR 1), some (zI moment), some (zI rule), some (zI ((r + 1 : Nat) : Int)), some (zI (bstO T rule moment).1), some (zI (bstO T rule moment).2.1), some (zI ((nJ T : Nat) : Int)), o7'] [] (sts σ j (5 * j + nxt T j) (sM T (5 * j + nxt T j)).toNat (bstO T rule moment).2.1 (sU T (5 * j + nxt T j)) (nxt T j + 1)) = zRV σ' ∧ Fr3 _ σ' ∧ DR σ' (fillM rule moment n (setP T (5 * j + nxt T j) (bstO T rule moment).2.1)) := fun o7' =>
        ih _ _ hcs hdr (st.sta.good hG) (pfx_set hG hP hj h3 (by omega)) (B + 20) hpb (by omega) (by omega) (by omega) (r + 1) _ _ _ o7' (by omega)
      -- all ends are one: by what the loop leaves in the last place
      have last : ∀ o7' : Option zVal, zE 138 17 [some (zR 1), some (zI moment), some (zI rule), some (zI (r : Int)), some (zI (bstO T rule moment).1), some (zI (bstO T rule moment).2.1), some (zI ((nJ T : Nat) : Int)), o7'] [] σ = zE 138 2 [some (zR 1), some (zI moment), some (zI rule), some (zI ((r + 1 : Nat) : Int)), some (zI (bstO T rule moment).1), some (zI (bstO T rule moment).2.1), some (zI ((nJ T : Nat) : Int)), o7'] [] (sts σ j (5 * j + nxt T j) (sM T (5 * j + nxt T j)).toNat (bstO T rule moment).2.1 (sU T (5 * j + nxt T j)) (nxt T j + 1)) := by
        intro o7'
        rw [X138_17, if_neg (by rw [hC.1.2.1]; unfold nJ; omega), if_neg hx, h2, e8, zbV_some, zw_nat1 (by omega)]
      obtain ⟨d7, hd7⟩ : ∃ d7, zE 138 17 [some (zR 1), some (zI moment), some (zI rule), some (zI (r : Int)), some (zI (-1)), some (zI 0), some (zI 0), o7] [] σ = zE 138 17 [some (zR 1), some (zI moment), some (zI rule), some (zI (r : Int)), some (zI (bstO T rule moment).1), some (zI (bstO T rule moment).2.1), some (zI ((nJ T : Nat) : Int)), d7] [] σ := by
        have key : ∀ n, n ≤ nJ T → ∃ d, zE 138 17 [some (zR 1), some (zI moment), some (zI rule), some (zI (r : Int)), some (zI (-1)), some (zI 0), some (zI 0), o7] [] σ = zE 138 17 [some (zR 1), some (zI moment), some (zI rule), some (zI (r : Int)), some (zI (f1 (fB T rule moment) n (-1, 0, 0)).1), some (zI (f1 (fB T rule moment) n (-1, 0, 0)).2.1), some (zI (n : Int)), d] [] σ := by
          intro n
          induction n with
          | zero => intro _; exact ⟨o7, rfl⟩
          | succ n ihn =>
            intro hn
            obtain ⟨d, hd⟩ := ihn (by omega)
            obtain ⟨d', h⟩ := s138_in hC hD hG hB (by omega) (rule := rule) hm (nJ_lt.mp (show n < nJ T by omega)) (r : Int) (f1 (fB T rule moment) n (-1, 0, 0)) (f1_bst n) d
            exact ⟨d', hd.trans h⟩
        exact key (nJ T) (Nat.le_refl _)
      obtain ⟨σ', q1, q2, q3⟩ := fin d7
      exact ⟨σ', hd7.trans ((last d7).trans q1), hfr.trans q2, q3⟩
theorem s138 {σ : zSt} {T : Row} (hC : CS σ T) (hD : DR σ T) (hG : Good T) (hP : Pfx T) {B : Int} (hB : PB T B) {rule moment : Int} (hm : 0 ≤ moment ∧ moment ≤ B) (hB2 : 550 ≤ B ∧ B ≤ 700000) : ∃ σ', zE 138 0 [some (zR 1), some (zI moment), some (zI rule), none, none, none, none, none] [] σ = zRV σ' ∧ Fr3 σ σ' ∧ DR σ' (fillM rule moment 30 T) := by
  rw [X138_0]
  exact s138_go (by omega) 30 σ T hC hD hG hP B hB hm.2 hB2.1 (by omega) 0 none none none none (by omega)
/-- no operation has a start -/
def Clr (T : Row) : Prop := ∀ j o, Live T j o → sP T (5 * j + o) = -1
theorem Clr.nxt {T : Row} (h : Clr T) {j : Nat} (hj : (j : Int) < T 1) : nxt T j = 0 := nxt_eq ⟨Nat.zero_le _, fun _ q => by omega, fun q => h j 0 ⟨hj, nO_lt.mp q⟩⟩
theorem Clr.pfx {T : Row} (h : Clr T) : Pfx T := fun j o hl _ => h j o hl
theorem s136 {σ : zSt} {T : Row} (h : Clr T) (hG : Good T) : ∃ σ', zE 136 0 [some (zR 1), none] [] σ = zRV σ' ∧ Fr3 σ σ' ∧ DR σ' T := by
  have l2 : ∀ (d m : Nat) (σ : zSt), m + d = 5 → ∃ σ', zE 136 23 [some (zR 1), some (zI (m : Int))] [] σ = zRV σ' ∧ Fr3 σ σ' ∧ (∀ k, k ≠ 62 → σ' k = σ k) ∧ ((∀ m' : Nat, m' < m → σ 62 m' = 0) → ∀ m' : Nat, m' < 5 → σ' 62 m' = 0) := by
    intro d
    induction d with
    | zero =>
      intro m σ hm
      refine ⟨σ, ?_, Fr3.rf σ, fun _ _ => rfl, fun q m' hm' => q m' (by omega)⟩
      rw [X136_23, if_neg (by omega)]
    | succ d ih =>
      intro m σ hm
      obtain ⟨σ', h1, h2, h3, h4⟩ := ih (m + 1) (zup σ 62 m 0) (by omega)
      refine ⟨σ', ?_, (zup_fr3 (Or.inr (Or.inr rfl))).trans h2, fun k hk => (h3 k hk).trans (funext fun j => zup_ne hk j), fun q => h4 (fun m' hm' => ?_)⟩
      · rw [X136_23, if_pos (by omega), zgd_pos (by omega), zw_nat1 (by omega), toNat_n]
        exact h1
      · by_cases e : m' = m
        · rw [e]; exact zup_at _ _ _ _
        · rw [zup_oth _ _ (Or.inr e)]; exact q m' (by omega)
  have l1 : ∀ (d j : Nat) (σ : zSt), j + d = 6 → ∃ σ', zE 136 2 [some (zR 1), some (zI (j : Int))] [] σ = zE 136 23 [some (zR 1), some (zI 0)] [] σ' ∧ Fr3 σ σ' ∧ ((∀ j' : Nat, j' < j → σ 61 j' = 0) → ∀ j' : Nat, j' < 6 → σ' 61 j' = 0) := by
    intro d
    induction d with
    | zero =>
      intro j σ hj
      refine ⟨σ, ?_, Fr3.rf σ, fun q j' hj' => q j' (by omega)⟩
      rw [X136_2, if_neg (by omega)]
    | succ d ih =>
      intro j σ hj
      obtain ⟨σ', h1, h2, h4⟩ := ih (j + 1) (zup σ 61 j 0) (by omega)
      refine ⟨σ', ?_, (zup_fr3 (Or.inr (Or.inl rfl))).trans h2, fun q => h4 (fun j' hj' => ?_)⟩
      · rw [X136_2, if_pos (by omega), zgd_pos (by omega), zw_nat1 (by omega), toNat_n]
        exact h1
      · by_cases e : j' = j
        · rw [e]; exact zup_at _ _ _ _
        · rw [zup_oth _ _ (Or.inr e)]; exact q j' (by omega)
  obtain ⟨σ1, a1, a2, a3⟩ := l1 6 0 σ (by omega)
  obtain ⟨σ2, b1, b2, b3, b4⟩ := l2 5 0 σ1 (by omega)
  refine ⟨σ2, ?_, a2.trans b2, fun j hj => ?_, fun m hm => ?_⟩
  · rw [X136_0]
    exact a1.trans b1
  · rw [h.nxt hj, b3 61 (by decide)]
    exact ⟨a3 (fun _ q => by omega) j (hG.j6 hj), fun o q => by omega⟩
  · rw [b4 (fun _ q => by omega) m hm]
    exact Mx.nil (fun t ⟨j, o, q1, q2, q3, _⟩ => q3.2 (h j o (liveN q1 q2)))
/-- a new draft by a rule -/
theorem s134 {σ : zSt} {T : Row} (hC : CS σ T) (hG : Good T) (h : Clr T) (rule : Int) : ∃ σ', zE 134 0 [some (zR 1), some (zI rule)] [] σ = zRV σ' ∧ Fr3 σ σ' ∧ DR σ' (fillM rule 0 30 T) := by
  obtain ⟨σ1, a1, a2, a3⟩ := s136 (σ := σ) h hG
  obtain ⟨σ2, b1, b2, b3⟩ := s138 (hC.same a2.shop) a3 hG h.pfx (B := 550) (fun j o hl => by rw [h j o hl]; omega) (rule := rule) (moment := 0) (by omega) (by omega)
  refine ⟨σ2, ?_, a2.trans b2, b3⟩
  rw [X134_0, a1, zbV_some, b1, zbV_some]
