/-! ===== 44: what is asked, and changes nothing: breakdown, value ===== -/
theorem Both.q {ks : List Nat} {x y : Option zOut} {σ τ : zSt} {S : Row} {c : Nat} {H : Nat → Row} {t : Nat} {T : Row} {B : Int} (h : RC σ S c H t T) (g : RM τ S c H t T) (a : RA S c H t T B) (v : Int) (hx : x = zRI v σ) (hy : y = zRI v (zup τ 9 0 0)) : Both ks x y σ τ S c H t T B :=
  Or.inl ⟨v, σ, _, S, c, H, t, T, hx, hy, zup_at _ _ _ _, h, g.nine ⟨by decide, by decide⟩, a, FC.rf _, FM.nine⟩
theorem zup9_65 {τ : zSt} {i : Nat} {v : Int} : (zup τ 9 i v) 65 = τ 65 := zup_off (by decide)
theorem f_breakdown {σ τ : zSt} {S : Row} {c : Nat} {H : Nat → Row} {t : Nat} {T : Row} {B : Int} (h : RC σ S c H t T) (g : RM τ S c H t T) (a : RA S c H t T B) (b k : Int) : Both [3, 1] (zE 13 0 [some (zR 0), some (zI b), some (zI k)] [] σ) (zE 86 0 [some (zR 9), some (zI b), some (zI k)] [] τ) σ τ S c H t T B := by
  have hG := a.1.1
  have g2 := hG.1.2.2.1
  rw [X13_0, s149, zbI_some, h.fld.2.2.1, X86_0, g.1, zw_id (by omega) (by omega), s38, zbI_some]
  by_cases c1 : 0 ≤ b ∧ b < S 2
  · obtain ⟨n, rfl⟩ : ∃ n : Nat, b = (n : Int) := ⟨b.toNat, by omega⟩
    have hn6 := hG.b6 c1.2
    obtain ⟨y1, y2, y3⟩ := h.1.2.2.2.1 n hn6
    have y1' : σ 15 n = bM S n := y1
    have y2' : σ 16 n = bF S n := y2
    have y3' : σ 17 n = bL S n := y3
    rw [if_pos c1, if_pos (c := 0 ≤ (n : Int) ∧ (n : Int) ≤ S 2 - 1) (by omega), if_neg i10, if_neg i10, s33, zbI_some, s38, zbI_some, X86_35, zup_at]
    by_cases c2 : 0 ≤ k ∧ k ≤ 2
    · rw [if_pos c2, if_neg i10, if_neg i10, if_pos (Int.le_refl 0)]
      rcases (show k = 0 ∨ k = 1 ∨ k = 2 by omega) with q | q | q
      · subst q
        rw [if_pos rfl, zgd_pos (by omega), toNat_n, y1', s46_0 hn6, zbI_some, zup9_65, g.1]
        exact Both.q h g a _ rfl rfl
      · subst q
        rw [if_neg (by decide), if_pos rfl, zgd_pos (by omega), toNat_n, y2', s46_1 hn6, zbI_some, zup9_65, g.1]
        exact Both.q h g a _ rfl rfl
      · subst q
        rw [if_neg (by decide), if_neg (by decide), zgd_pos (by omega), toNat_n, y3', s46_2 hn6, zbI_some, zup9_65, g.1]
        exact Both.q h g a _ rfl rfl
    · rw [if_neg c2, if_pos rfl, if_pos rfl]
      exact bad3 g 1 1 rfl
  · rw [if_neg c1, if_neg (c := 0 ≤ b ∧ b ≤ S 2 - 1) (by omega), if_pos rfl, if_pos rfl, X86_35, zup_at]
    exact bad3 g 0 3 rfl
/-- how many operations there are -/
def opn (S : Row) : Int := f1 (fun j a => zw (a + rO S j)) (nJ S) 0
theorem s156 {σ : zSt} {S : Row} (hC : CS σ S) (hG : Good S) : zE 156 0 [some (zR 2), none, none] [] σ = zRI (opn S) σ := by
  have key := zloop1 (α := Int) (D := Unit) (nJ S) (fun j a => zw (a + rO S j)) (fun j a _ => zE 156 4 [some (zR 2), some (zI a), some (zI (j : Int))] [] σ) (fun a => zRI a σ) (fun _ _ => True) ?_ ?_ 0 () trivial
  · rw [X156_0]
    exact key.1
  · intro j a _ hj _
    have hjl := nJ_lt.mp hj
    have hj6 := hG.j6 hjl
    refine ⟨⟨(), ?_⟩, trivial⟩
    show zE 156 4 [some (zR 2), some (zI a), some (zI (j : Int))] [] σ = _
    rw [X156_4, if_pos (by rw [hC.1.2.1]; exact hjl), zgd_pos (by omega), toNat_n, (hC.2.1 j hj6).2.2, zw_nat1 (by omega)]
  · intro a _ _
    show zE 156 4 [some (zR 2), some (zI a), some (zI ((nJ S : Nat) : Int))] [] σ = _
    rw [X156_4, if_neg (by rw [hC.1.2.1]; have := hG.1.2.1; unfold nJ; omega)]
theorem s88 {σ : zSt} (hG : Good (σ 65)) : zE 88 0 [some (zR 9), none, none] [] σ = zRI (opn (σ 65)) σ := by
  have key := zloop1 (α := Int) (D := Unit) (nJ (σ 65)) (fun j a => zw (a + rO (σ 65) j)) (fun j a _ => zE 88 4 [some (zR 9), some (zI a), some (zI (j : Int))] [] σ) (fun a => zRI a σ) (fun _ _ => True) ?_ ?_ 0 () trivial
  · rw [X88_0]
    exact key.1
  · intro j a _ hj _
    have hjl := nJ_lt.mp hj
    have hj6 := hG.j6 hjl
    refine ⟨⟨(), ?_⟩, trivial⟩
    show zE 88 4 [some (zR 9), some (zI a), some (zI (j : Int))] [] σ = _
    rw [X88_4, if_pos hjl, s42_2 hj6, zbI_some, zw_nat1 (by omega)]
  · intro a _ _
    show zE 88 4 [some (zR 9), some (zI a), some (zI ((nJ (σ 65) : Nat) : Int))] [] σ = _
    rw [X88_4, if_neg (by have := hG.1.2.1; unfold nJ; omega)]
/-- an end of the present plan -/
def Pend (S : Row) (n : Nat) (t : Int) : Prop := ∃ j o, j < n ∧ o < nO S j ∧ t = sP S (5 * j + o) + sU S (5 * j + o)
theorem Val.mono {S : Row} {B : Int} (hV : Val S 3 B) (hG : Good S) {j : Nat} : ∀ (d o : Nat), Live S j (o + d) → sP S (5 * j + o) + sU S (5 * j + o) ≤ sP S (5 * j + (o + d)) + sU S (5 * j + (o + d)) := by
  intro d
  induction d with
  | zero => intro o _; exact Int.le_refl _
  | succ d ih =>
    intro o hl
    have hl' : Live S j (o + d) := ⟨hl.1, by have := hl.2; omega⟩
    have h1 := ih o hl'
    have h2 := hV.2.1 j (o + d) (by rw [show o + d + 1 = o + (d + 1) by omega]; exact hl)
    have e1 : S (23 + 3 + 4 * (5 * j + (o + d))) = sP S (5 * j + (o + d)) := rfl
    have e2 : S (23 + 3 + 4 * (5 * j + (o + d + 1))) = sP S (5 * j + (o + (d + 1))) := rfl
    rw [e1, e2] at h2
    have h3 := (hG.2.2.1 j (o + (d + 1)) hl.1 hl.2).2
    omega
theorem s162 {σ : zSt} {S : Row} {B : Int} (hC : CS σ S) (hG : Good S) (hV : Val S 3 B) (hB : B ≤ 800000) (hA : ∀ j o, Live S j o → σ 19 (5 * j + o) = sP S (5 * j + o)) : ∃ m, zE 162 0 [some (zR 2), none, none] [] σ = zRI m σ ∧ Mx 0 (Pend S (nJ S)) m := by
  have go : ∀ (d j : Nat) (a : Int), j + d = nJ S → Mx 0 (Pend S j) a → ∃ m, zE 162 4 [some (zR 2), some (zI a), some (zI (j : Int))] [] σ = zRI m σ ∧ Mx 0 (Pend S (nJ S)) m := by
    intro d
    induction d with
    | zero =>
      intro j a hj hm
      rw [X162_4, if_neg (by rw [hC.1.2.1]; have := hG.1.2.1; unfold nJ at hj; omega)]
      rw [show j = nJ S by omega] at hm
      exact ⟨a, rfl, hm⟩
    | succ d ih =>
      intro j a hj hm
      have hjl := nJ_lt.mp (show j < nJ S by omega)
      have hj6 := hG.j6 hjl
      rw [X162_4, if_pos (by rw [hC.1.2.1]; exact hjl), s159 hC hG (p := 3) (k := 19) (by rfl) hA hjl, zbI_some, zw_nat1 (by omega)]
      refine ih (j + 1) _ (by omega) ?_
      by_cases c : rO S j = 0
      · rw [if_pos c]
        have h0 := hm.1
        rw [show max a 0 = a by omega]
        refine hm.congr (fun t => ⟨fun ⟨j', o, h1, h2⟩ => ⟨j', o, by omega, h2⟩, fun ⟨j', o, h1, h2, h3⟩ => ⟨j', o, ?_, h2, h3⟩⟩)
        by_cases e : j' = j
        · subst e; have := nO_lt.mp h2; omega
        · omega
      · rw [if_neg c]
        have g5 := (hG.2.1 j hjl).2.2
        obtain ⟨o, ho⟩ : ∃ o : Nat, rO S j = (o : Int) + 1 := ⟨(rO S j - 1).toNat, by omega⟩
        have hn : nO S j = o + 1 := by unfold nO; omega
        have hl : Live S j o := ⟨hjl, by omega⟩
        have hp := hV.1 j o hl
        have hu := (hG.2.2.1 j o hl.1 hl.2).2
        have e1 : S (23 + 3 + 4 * (5 * j + (nO S j - 1))) = sP S (5 * j + o) := by rw [hn]; rfl
        have e2 : sU S (5 * j + (nO S j - 1)) = sU S (5 * j + o) := by rw [hn]; rfl
        have e3 : S (23 + 3 + 4 * (5 * j + o)) = sP S (5 * j + o) := rfl
        rw [e3] at hp
        rw [e1, e2, zw_id (by omega) (by omega)]
        refine ⟨by have := hm.1; omega, fun t ⟨j', o', h1, h2, h3⟩ => ?_, ?_⟩
        · by_cases e : j' = j
          · subst e
            have := hV.mono hG (j := j') (o - o') o' (by rw [show o' + (o - o') = o by omega]; exact hl)
            rw [show o' + (o - o') = o by omega] at this
            omega
          · have := hm.2.1 t ⟨j', o', by omega, h2, h3⟩
            omega
        · by_cases q : a < sP S (5 * j + o) + sU S (5 * j + o)
          · exact Or.inr ⟨j, o, by omega, by omega, by omega⟩
          · rcases hm.2.2 with w | ⟨j', o', h1, h2, h3⟩
            · exact Or.inl (by omega)
            · exact Or.inr ⟨j', o', by omega, h2, by omega⟩
  rw [X162_0]
  exact go (nJ S) 0 0 (by omega) (Mx.nil (fun t ⟨j', o', h1, _⟩ => by omega))
theorem s87 {σ : zSt} (hG : Good (σ 65)) {B : Int} (hV : Val (σ 65) 3 B) (hB : B ≤ 800000) : ∃ m, zE 87 0 [some (zR 9), none, none, none] [] σ = zRI m σ ∧ Mx 0 (Pend (σ 65) (nJ (σ 65))) m := by
  have key := zloop2 (α := Int) (D := Option zVal) (E := Unit) (nJ (σ 65)) (nO (σ 65)) (fun j o a => if sP (σ 65) (5 * j + o) + sU (σ 65) (5 * j + o) ≤ a then a else sP (σ 65) (5 * j + o) + sU (σ 65) (5 * j + o))
    (fun j a d => zE 87 4 [some (zR 9), some (zI a), some (zI (j : Int)), d] [] σ)
    (fun j o a _ => zE 87 16 [some (zR 9), some (zI a), some (zI (j : Int)), some (zI (o : Int))] [] σ)
    (fun a => zRI a σ) (fun _ _ _ => True) ?_ ?_ ?_ ?_ 0 none trivial
  · refine ⟨_, by rw [X87_0]; exact key.1, ?_⟩
    refine (fJ_max (no := nO (σ 65)) (n := nJ (σ 65)) (b := 0) (Q := fun _ _ => True) (e := fun j o => sP (σ 65) (5 * j + o) + sU (σ 65) (5 * j + o)) (fun j o a _ _ => ⟨fun _ => ?_, fun q => absurd trivial q⟩)).congr (fun t => ⟨fun ⟨j, o, h1, h2, _, h3⟩ => ⟨j, o, h1, h2, h3⟩, fun ⟨j, o, h1, h2, h3⟩ => ⟨j, o, h1, h2, trivial, h3⟩⟩)
    split <;> omega
  · intro j a d hj _
    refine ⟨(), ?_⟩
    show zE 87 4 [some (zR 9), some (zI a), some (zI (j : Int)), d] [] σ = _
    rw [X87_4, if_pos (nJ_lt.mp hj)]
    rfl
  · intro j o a _ hj ho _
    have hl := liveN hj ho
    have hj6 := hG.j6 hl.1
    have ho5 := hG.o5 hl
    have hp := hV.1 j o hl
    have hu := (hG.2.2.1 j o hl.1 hl.2).2
    have e3 : σ 65 (23 + 3 + 4 * (5 * j + o)) = sP (σ 65) (5 * j + o) := rfl
    rw [e3] at hp
    refine ⟨⟨(), ?_⟩, trivial⟩
    show zE 87 16 [some (zR 9), some (zI a), some (zI (j : Int)), some (zI (o : Int))] [] σ = _
    rw [X87_16, s42_2 hj6, zbI_some, if_pos hl.2, s60_3 hj6 ho5, zbI_some, s60_3 hj6 ho5, zbI_some, zw_id (x := sP (σ 65) (5 * j + o) + sU (σ 65) (5 * j + o)) (by omega) (by omega), zw_nat1 (by omega)]
    by_cases q : sP (σ 65) (5 * j + o) + sU (σ 65) (5 * j + o) ≤ a
    · rw [if_pos q, if_pos q]
    · rw [if_neg q, if_neg q]
  · intro j a _ hj _
    have hj6 := hG.j6 (nJ_lt.mp hj)
    have h5 : nO (σ 65) j ≤ 5 := by have := (hG.2.1 j (nJ_lt.mp hj)).2.2; unfold nO; omega
    refine ⟨⟨some (zI ((nO (σ 65) j : Nat) : Int)), ?_⟩, trivial⟩
    show zE 87 16 [some (zR 9), some (zI a), some (zI (j : Int)), some (zI ((nO (σ 65) j : Nat) : Int))] [] σ = _
    rw [X87_16, s42_2 hj6, zbI_some, if_neg (by unfold nO; omega), zw_nat1 (by omega)]
  · intro a d _
    show zE 87 4 [some (zR 9), some (zI a), some (zI ((nJ (σ 65) : Nat) : Int)), d] [] σ = _
    rw [X87_4, if_neg (by have := hG.1.2.1; unfold nJ; omega)]
/-- how many operations of the present plan hit a breakdown -/
noncomputable def fHt (S : Row) (j o : Nat) (a : Int) : Int := @ite _ (Hits S (5 * j + o) (sP S (5 * j + o))) (Classical.propDecidable _) (a + 1) a
noncomputable def htS (S : Row) : Int := fA S (fHt S) 0
theorem fHt_le {S : Row} {j o : Nat} {a : Int} (h : 0 ≤ a ∧ a ≤ 5 * j + o) : 0 ≤ fHt S j o a ∧ fHt S j o a ≤ 5 * j + (o + 1 : Nat) := by
  unfold fHt
  by_cases q : Hits S (5 * j + o) (sP S (5 * j + o))
  · rw [if_pos q]; omega
  · rw [if_neg q]; omega
theorem s166 {σ : zSt} {S : Row} {B : Int} (hC : CS σ S) (hG : Good S) (hV : Val S 3 B) (hB : B ≤ 800000) (hA : ∀ j o, Live S j o → σ 19 (5 * j + o) = sP S (5 * j + o)) : zE 166 0 [some (zR 2), none, none, none, none] [] σ = zRI (htS S) σ := by
  have key := zloop2 (α := Int) (D := Option zVal × Option zVal) (E := Option zVal) (nJ S) (nO S) (fHt S)
    (fun j a d => zE 166 4 [some (zR 2), some (zI a), some (zI (j : Int)), d.1, d.2] [] σ)
    (fun j o a d => zE 166 14 [some (zR 2), some (zI a), some (zI (j : Int)), some (zI (o : Int)), d] [] σ)
    (fun a => zRI a σ) (fun j o a => 0 ≤ a ∧ a ≤ 5 * j + o) ?_ ?_ ?_ ?_ 0 (none, none) (by omega)
  · rw [X166_0]
    exact key.1
  · intro j a d hj hi
    refine ⟨d.2, ?_⟩
    show zE 166 4 [some (zR 2), some (zI a), some (zI (j : Int)), d.1, d.2] [] σ = _
    rw [X166_4, if_pos (by rw [hC.1.2.1]; exact nJ_lt.mp hj)]
    rfl
  · intro j o a d hj ho hi
    have hl := liveN hj ho
    have hj6 := hG.j6 hl.1
    have ho5 := hG.o5 hl
    have hp := hV.1 j o hl
    have e3 : S (23 + 3 + 4 * (5 * j + o)) = sP S (5 * j + o) := rfl
    rw [e3] at hp
    obtain ⟨q1, q2⟩ := s164 hC hG (i := 5 * j + o) (by omega) (hG.2.2.1 j o hl.1 hl.2).2 (t := sP S (5 * j + o)) (by omega)
    refine ⟨⟨some (zI ((5 * j + o : Nat) : Int)), ?_⟩, fHt_le hi⟩
    show zE 166 14 [some (zR 2), some (zI a), some (zI (j : Int)), some (zI (o : Int)), d] [] σ = _
    rw [X166_14, zgd_pos (by omega), toNat_n, (hC.2.1 j hj6).2.2, if_pos hl.2, s35 (by omega) (by omega), zbI_some, zgd_pos (by omega), toNat_n, hA j o hl]
    unfold fHt
    by_cases q : Hits S (5 * j + o) (sP S (5 * j + o))
    · rw [q1 q, zbI_some, if_neg i10, if_pos q, zw_nat1 (by omega), zw_id (x := a + 1) (by omega) (by omega)]
    · rw [q2 q, zbI_some, if_pos rfl, if_neg q, zw_nat1 (by omega)]
  · intro j a d hj hi
    have hj6 := hG.j6 (nJ_lt.mp hj)
    have h5 : nO S j ≤ 5 := by have := (hG.2.1 j (nJ_lt.mp hj)).2.2; unfold nO; omega
    refine ⟨⟨(some (zI ((nO S j : Nat) : Int)), d), ?_⟩, by omega⟩
    show zE 166 14 [some (zR 2), some (zI a), some (zI (j : Int)), some (zI ((nO S j : Nat) : Int)), d] [] σ = _
    rw [X166_14, zgd_pos (by omega), toNat_n, (hC.2.1 j hj6).2.2, if_neg (by unfold nO; omega), zw_nat1 (by omega)]
  · intro a d hi
    show zE 166 4 [some (zR 2), some (zI a), some (zI ((nJ S : Nat) : Int)), d.1, d.2] [] σ = _
    rw [X166_4, if_neg (by rw [hC.1.2.1]; have := hG.1.2.1; unfold nJ; omega)]
theorem s83 {σ : zSt} (hG : Good (σ 65)) {B : Int} (hV : Val (σ 65) 3 B) (hB : B ≤ 800000) {j o : Nat} (hl : Live (σ 65) j o) : (Hits (σ 65) (5 * j + o) (sP (σ 65) (5 * j + o)) → zE 83 0 [some (zR 9), some (zI j), some (zI o)] [] σ = zRI 1 σ) ∧ (¬ Hits (σ 65) (5 * j + o) (sP (σ 65) (5 * j + o)) → zE 83 0 [some (zR 9), some (zI j), some (zI o)] [] σ = zRI 0 σ) := by
  have hj6 := hG.j6 hl.1
  have ho5 := hG.o5 hl
  have hp := hV.1 j o hl
  have e3 : σ 65 (23 + 3 + 4 * (5 * j + o)) = sP (σ 65) (5 * j + o) := rfl
  rw [e3] at hp
  obtain ⟨r, e1, e2⟩ := s58 hG hl (t := sP (σ 65) (5 * j + o)) (by omega)
  rw [X83_0, s44_3 hj6 ho5, zbI_some, e1, zbI_some]
  rcases e2 with ⟨q1, q2⟩ | ⟨b, q1, q2, q3⟩
  · refine ⟨fun q => absurd q q2, fun _ => by rw [if_pos q1]⟩
  · have := hG.2.2.2 b q1
    refine ⟨fun _ => by rw [if_neg (by omega)], fun q => absurd ⟨b, q1, q2⟩ q⟩
theorem s89 {σ : zSt} (hG : Good (σ 65)) {B : Int} (hV : Val (σ 65) 3 B) (hB : B ≤ 800000) : zE 89 0 [some (zR 9), none, none, none] [] σ = zRI (htS (σ 65)) σ := by
  have key := zloop2 (α := Int) (D := Option zVal) (E := Unit) (nJ (σ 65)) (nO (σ 65)) (fHt (σ 65))
    (fun j a d => zE 89 4 [some (zR 9), some (zI a), some (zI (j : Int)), d] [] σ)
    (fun j o a _ => zE 89 16 [some (zR 9), some (zI a), some (zI (j : Int)), some (zI (o : Int))] [] σ)
    (fun a => zRI a σ) (fun j o a => 0 ≤ a ∧ a ≤ 5 * j + o) ?_ ?_ ?_ ?_ 0 none (by omega)
  · rw [X89_0]
    exact key.1
  · intro j a d hj _
    refine ⟨(), ?_⟩
    show zE 89 4 [some (zR 9), some (zI a), some (zI (j : Int)), d] [] σ = _
    rw [X89_4, if_pos (nJ_lt.mp hj)]
    rfl
  · intro j o a _ hj ho hi
    have hl := liveN hj ho
    have hj6 := hG.j6 hl.1
    have ho5 := hG.o5 hl
    obtain ⟨q1, q2⟩ := s83 hG hV hB hl
    refine ⟨⟨(), ?_⟩, fHt_le hi⟩
    show zE 89 16 [some (zR 9), some (zI a), some (zI (j : Int)), some (zI (o : Int))] [] σ = _
    rw [X89_16, s42_2 hj6, zbI_some, if_pos hl.2]
    unfold fHt
    by_cases q : Hits (σ 65) (5 * j + o) (sP (σ 65) (5 * j + o))
    · rw [q1 q, zbI_some, if_pos q, zw_nat1 (by omega), zw_id (x := a + 1) (by omega) (by omega)]
    · rw [q2 q, zbI_some, if_neg q, zw_nat1 (by omega), zw_id (x := a + 0) (by omega) (by omega), Int.add_zero]
  · intro j a _ hj hi
    have hj6 := hG.j6 (nJ_lt.mp hj)
    have h5 : nO (σ 65) j ≤ 5 := by have := (hG.2.1 j (nJ_lt.mp hj)).2.2; unfold nO; omega
    refine ⟨⟨some (zI ((nO (σ 65) j : Nat) : Int)), ?_⟩, by omega⟩
    show zE 89 16 [some (zR 9), some (zI a), some (zI (j : Int)), some (zI ((nO (σ 65) j : Nat) : Int))] [] σ = _
    rw [X89_16, s42_2 hj6, zbI_some, if_neg (by unfold nO; omega), zw_nat1 (by omega)]
  · intro a d _
    show zE 89 4 [some (zR 9), some (zI a), some (zI ((nJ (σ 65) : Nat) : Int)), d] [] σ = _
    rw [X89_4, if_neg (by have := hG.1.2.1; unfold nJ; omega)]
/-- a value, as the class answers it -/
theorem c_value {σ : zSt} {S : Row} {B : Int} (h : ShC (shF σ 0) (shA σ 0) S) (hO : Ok S B) (hB : B ≤ 800000) (k : Int) (hk : 0 ≤ k ∧ k ≤ 9) : ∃ v, zE 14 0 [some (zR 0), some (zI k)] [] σ = zRI v σ ∧ ∀ τ : zSt, τ 65 = S → zE 90 0 [some (zR 9), some (zI k)] [] τ = zRI v τ := by
  have hG := hO.1
  obtain ⟨f0, f1', f2, f3, f4⟩ := h.1
  have f0' : σ 2 0 = S 0 := f0
  have f1'' : σ 2 1 = S 1 := f1'
  have f2' : σ 2 7 = S 2 := f2
  have f3' : σ 2 11 = S 3 := f3
  have f4' : σ 2 14 = S 4 := f4
  have g3 := hG.1.2.2.2
  rw [X14_0, s33, zbI_some, if_pos hk, if_neg i10]
  rcases (show k = 0 ∨ k = 1 ∨ k = 2 ∨ k = 3 ∨ k = 4 ∨ k = 5 ∨ 6 ≤ k by omega) with q | q | q | q | q | q | q
  · subst q
    exact ⟨S 0, by rw [if_pos rfl, f0'], fun τ e => by rw [X90_0, if_pos (by decide), X90_15, if_pos rfl, e]⟩
  · subst q
    exact ⟨S 1, by rw [if_neg (by decide), if_pos rfl, f1''], fun τ e => by rw [X90_0, if_pos (by decide), X90_15, if_neg (by decide), if_pos rfl, e]⟩
  · subst q
    exact ⟨opn S, by rw [if_neg (by decide), if_neg (by decide), if_pos rfl, s156 h.cs hG, zbI_some], fun τ e => by rw [X90_0, if_pos (by decide), X90_15, if_neg (by decide), if_neg (by decide), if_pos rfl, s88 (by rw [e]; exact hG), zbI_some, e]⟩
  · subst q
    exact ⟨S 2, by rw [if_neg (by decide), if_neg (by decide), if_neg (by decide), if_pos rfl, f2'], fun τ e => by rw [X90_0, if_pos (by decide), X90_15, if_neg (by decide), if_neg (by decide), if_neg (by decide), if_pos rfl, e]⟩
  · subst q
    refine ⟨S 3, ?_, fun τ e => by rw [X90_0, if_pos (by decide), X90_15, if_neg (by decide), if_neg (by decide), if_neg (by decide), if_neg (by decide), if_pos rfl, e]⟩
    rw [if_neg (by decide), if_neg (by decide), if_neg (by decide), if_neg (by decide), if_pos rfl, f3']
    rcases g3 with w | w
    · rw [w, if_pos rfl]
    · rw [w, if_neg i10]
  · subst q
    exact ⟨S 4, by rw [if_neg (by decide), if_neg (by decide), if_neg (by decide), if_neg (by decide), if_neg (by decide), if_pos rfl, f4'], fun τ e => by rw [X90_0, if_pos (by decide), X90_15, if_neg (by decide), if_neg (by decide), if_neg (by decide), if_neg (by decide), if_neg (by decide), if_pos rfl, e]⟩
  · rw [if_neg (by omega), if_neg (by omega), if_neg (by omega), if_neg (by omega), if_neg (by omega), if_neg (by omega), f3']
    rcases g3 with w | w
    · refine ⟨-1, by rw [w, if_pos rfl], fun τ e => by rw [X90_0, if_neg (by omega), s73, zbI_some, e, w, if_neg (show ¬ (0 : Int) = 1 by decide), if_pos rfl]⟩
    · obtain ⟨v2, v3⟩ := hO.2 w
      have hp := h.2.2.2.2 w
      rw [w, if_neg i10, X29_0]
      have mod : ∀ (τ : zSt), τ 65 = S → zE 90 0 [some (zR 9), some (zI k)] [] τ = zE 90 15 [some (zR 9), some (zI k)] [] τ := fun τ e => by
        rw [X90_0, if_neg (by omega), s73, zbI_some, e, w, if_pos rfl, if_neg i10]
      rcases (show k = 6 ∨ k = 7 ∨ k = 8 ∨ k = 9 by omega) with q2 | q2 | q2 | q2
      · subst q2
        refine ⟨ltS S 2, ?_, fun τ e => ?_⟩
        · rw [if_pos rfl, s161 h.cs hG (p := 2) (k := 18) (by rfl) (fun j o hl => (hp j o hl).1), zbI_some, zbI_some]
        · have e6 := s66 (σ := τ) (by rw [e]; exact hG) (p := 2) (by omega)
          have e6' : zE 66 0 [some (zR 9), some (zI 2), none, none] [] τ = zRI (ltS (τ 65) 2) τ := e6
          rw [mod τ e, X90_15, if_neg (by decide), if_neg (by decide), if_neg (by decide), if_neg (by decide), if_neg (by decide), if_neg (by decide), if_pos rfl, e6', zbI_some, e]
      · subst q2
        refine ⟨ltS S 3, ?_, fun τ e => ?_⟩
        · rw [if_neg (by decide), if_pos rfl, s161 h.cs hG (p := 3) (k := 19) (by rfl) (fun j o hl => (hp j o hl).2), zbI_some, zbI_some]
        · have e6 := s66 (σ := τ) (by rw [e]; exact hG) (p := 3) (by omega)
          have e6' : zE 66 0 [some (zR 9), some (zI 3), none, none] [] τ = zRI (ltS (τ 65) 3) τ := e6
          rw [mod τ e, X90_15, if_neg (by decide), if_neg (by decide), if_neg (by decide), if_neg (by decide), if_neg (by decide), if_neg (by decide), if_neg (by decide), if_pos rfl, e6', zbI_some, e]
      · subst q2
        obtain ⟨m, e1, e2⟩ := s162 h.cs hG v3 hB (fun j o hl => (hp j o hl).2)
        refine ⟨m, ?_, fun τ e => ?_⟩
        · rw [if_neg (by decide), if_neg (by decide), if_pos rfl, e1, zbI_some, zbI_some]
        · obtain ⟨m', e3, e4⟩ := s87 (σ := τ) (by rw [e]; exact hG) (B := B) (by rw [e]; exact v3) hB
          rw [e] at e4
          rw [mod τ e, X90_15, if_neg (by decide), if_neg (by decide), if_neg (by decide), if_neg (by decide), if_neg (by decide), if_neg (by decide), if_neg (by decide), if_neg (by decide), if_pos rfl, e3, zbI_some, e2.uniq e4]
      · subst q2
        refine ⟨htS S, ?_, fun τ e => ?_⟩
        · rw [if_neg (by decide), if_neg (by decide), if_neg (by decide), s166 h.cs hG v3 hB (fun j o hl => (hp j o hl).2), zbI_some, zbI_some]
        · rw [mod τ e, X90_15, if_neg (by decide), if_neg (by decide), if_neg (by decide), if_neg (by decide), if_neg (by decide), if_neg (by decide), if_neg (by decide), if_neg (by decide), if_neg (by decide), s89 (by rw [e]; exact hG) (B := B) (by rw [e]; exact v3) hB, zbI_some, e]
theorem f_value {σ τ : zSt} {S : Row} {c : Nat} {H : Nat → Row} {t : Nat} {T : Row} {B : Int} (hB : B ≤ 800000) (h : RC σ S c H t T) (g : RM τ S c H t T) (a : RA S c H t T B) (k : Int) : Both [1] (zE 14 0 [some (zR 0), some (zI k)] [] σ) (zE 91 0 [some (zR 9), some (zI k)] [] τ) σ τ S c H t T B := by
  rw [X91_0, s38, zbI_some, X91_16, zup_at]
  by_cases c1 : 0 ≤ k ∧ k ≤ 9
  · obtain ⟨v, e1, e2⟩ := c_value h.1 a.1 hB k c1
    rw [if_pos c1, if_neg i10, if_pos (Int.le_refl 0), e1, e2 _ (by rw [zup9_65]; exact g.1), zbI_some]
    exact Both.q h g a v rfl rfl
  · rw [X14_0, s33, zbI_some, if_neg c1, if_pos rfl, if_pos rfl]
    exact bad3 g 0 1 rfl
