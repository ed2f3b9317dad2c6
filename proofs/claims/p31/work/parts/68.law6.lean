/-! ===== 68: the law's calls: plan, shift, replan, accept (written by a program) ===== -/
theorem Wst.fc {σ σ' : zSt} {S : Row} (h : Wst σ S) (e : FC σ σ') : Wst σ' S := by
  obtain ⟨w1, w2, w3, w4⟩ := h
  exact ⟨by rw [e.1]; exact w1, fun j hj => by rw [e.2 65 (by omega)]; exact w2 j hj, fun j o hl => by rw [e.2 66 (by omega)]; exact w3 j o hl, fun b hb => by rw [e.2 68 (by omega)]; exact w4 b hb⟩
theorem Stt.mch {S T : Row} (h : Stt S T) (hG : Good S) (hm : Mch S) : Mch T := fun j o hl => by
  have e : sM T (5 * j + o) = sM S (5 * j + o) := h _ (by omega) (by omega) (by omega)
  rw [e, h 0 (by omega) (by omega) (by omega)]
  exact hm j o ((h.live hG j o).mp hl)
theorem Stt.due {S T : Row} (h : Stt S T) {x : Int} (hd : ∀ j : Nat, j < 3 → rD S j ≤ x) : ∀ j : Nat, j < 3 → rD T j ≤ x := fun j hj => by
  have e : rD T j = rD S j := h _ (by omega) (by omega) (by omega)
  rw [e]; exact hd j hj
section LAWH
variable {σ : zSt} {S : Row} {B : Int} {t : Nat} {l7 l8 l9 l10 l11 l12 : Int} {o13 o14 : Option zVal}
/-- a plan -/
theorem q187_325 (h : J2 σ S B t) (hB : 1150 ≤ B ∧ B ≤ 18000) (hr : 0 ≤ l11 ∧ l11 ≤ 3) : ∃ (σ' : zSt) (S' : Row), zE 187 325 [some (zR 90), some (zR 0), some (zR 9), some (zR 65), some (zR 66), some (zR 67), some (zR 68), some (zI l7), some (zI l8), some (zI l9), some (zI l10), some (zI l11), some (zI l12), o13, o14] [] σ = zE 187 682 [some (zR 90), some (zR 0), some (zR 9), some (zR 65), some (zR 66), some (zR 67), some (zR 68), some (zI l7), some (zI l8), some (zI l9), some (zI l10), some (zI l11), some (zI l12), o13, o14] [] σ' ∧ J2 σ' S' B t := by
  obtain ⟨hC, ⟨h3, hw, hp, ho, h91, h92⟩, hm, hd⟩ := h
  have hG := hC.ok.1
  obtain ⟨σ1, a1, a2, a3, a4, a5⟩ := t181 hw h3 hG l11
  have hC1 : CR σ1 S B := hC.fl a2.fl
  obtain ⟨σ2, b1, b2, b3⟩ := g_plan hB.1 hC1 hr
  have st : Stt S (mpS S l11) := mpS_stt hG
  have h32 := st.l3 hG h3
  have hw2 : Wst σ2 (mpS S l11) := ((a2.ls hw).of st hG h3).fc b3
  have hp2 : Wpr σ2 (mpS S l11) := fun j o hl => by rw [b3.2 66 (by omega)]; exact a3 j o hl
  have ho2 : Wol σ2 (mpS S l11) := fun j o hl => by rw [b3.2 66 (by omega)]; exact a4 j o hl
  rw [X187_325, a1, zbV_some, b1, zbI_some, t180_3 hw2 h32 b2.ok.1 hp2, zbI_some, if_pos rfl]
  refine ⟨σ2, mpS S l11, rfl, b2, ⟨h32, hw2, hp2, ho2, ?_, ?_⟩, st.mch hG hm, st.due hd⟩
  · rw [b3.1, a5]; exact mpS_3.symm
  · rw [b3.1, a2.2.1 2 (by decide), h92]
    exact (mpS_off hG (by omega) (by omega)).symm
/-- a shift -/
theorem q187_sh (h : J2 σ S B t) (hB : 1150 ≤ B ∧ B ≤ 18000) (w : S 3 = 1) : ∃ (σ' : zSt) (S' : Row), zE 187 354 [some (zR 90), some (zR 0), some (zR 9), some (zR 65), some (zR 66), some (zR 67), some (zR 68), some (zI l7), some (zI l8), some (zI l9), some (zI 2), some (zI l11), some (zI l12), o13, o14] [] σ = zE 187 682 [some (zR 90), some (zR 0), some (zR 9), some (zR 65), some (zR 66), some (zR 67), some (zR 68), some (zI l7), some (zI l8), some (zI l9), some (zI 2), some (zI l11), some (zI l12), o13, o14] [] σ' ∧ J2 σ' S' (B + 600) t := by
  obtain ⟨hC, ⟨h3, hw, hp, ho, h91, h92⟩, hm, hd⟩ := h
  have hO := hC.ok
  have hG := hO.1
  obtain ⟨v2, v3⟩ := hO.2 w
  have hV := v2.vo hG
  obtain ⟨_, Q0, _, _, _, q1, q2, q3⟩ := g_shift (by omega) hC w
  obtain ⟨σ1, i1, i2, i3⟩ := t182 hw h3 hG ho hV q2 (M := B + 600) (by omega) q3
  have hC1 : CR σ1 S B := hC.fl i2.fo.fl
  obtain ⟨σ2, Q, j1, j2, j3, r1, r2, r3⟩ := g_shift (by omega) hC1 w
  have st : Stt S Q := r1.sta.stt
  have h32 := st.l3 hG h3
  have hw2 : Wst σ2 Q := ((i2.fo.ls hw).of st hG h3).fc j3
  have hp2 : Wpr σ2 Q := fun j o hl => by
    have hl' := (st.live hG j o).mp hl
    rw [j3.2 66 (by omega)]
    exact (i3 j o hl').trans (ShEq.uniq hV q2 r2 j o hl')
  have ho2 : Wol σ2 Q := fun j o hl => by
    have e : sL Q (5 * j + o) = sL S (5 * j + o) := r1 _ (by omega)
    rw [j3.2 66 (by omega), e]
    exact i2.ll ho j o ((st.live hG j o).mp hl)
  rw [X187_354, if_pos rfl, i1, zbV_some, j1, zbI_some, t180_3 hw2 h32 j2.ok.1 hp2, zbI_some, if_pos rfl]
  refine ⟨σ2, Q, rfl, j2, ⟨h32, hw2, hp2, ho2, ?_, ?_⟩, st.mch hG hm, st.due hd⟩
  · rw [j3.1, i2.1 9 (by decide), h91]; exact (r1 _ (by omega)).symm
  · rw [j3.1, i2.1 9 (by decide), h92]; exact (r1 _ (by omega)).symm
/-- a replan -/
theorem q187_re (h : J2 σ S B t) (hB : 1150 ≤ B ∧ B ≤ 18000) (w : S 3 = 1) (h10 : l10 ≠ 2 ∧ l10 < 5) (hmo : 0 ≤ l12 ∧ l12 ≤ 999) (hr : 0 ≤ l11 ∧ l11 ≤ 3) : ∃ (σ' : zSt) (S' : Row), zE 187 354 [some (zR 90), some (zR 0), some (zR 9), some (zR 65), some (zR 66), some (zR 67), some (zR 68), some (zI l7), some (zI l8), some (zI l9), some (zI l10), some (zI l11), some (zI l12), o13, o14] [] σ = zE 187 682 [some (zR 90), some (zR 0), some (zR 9), some (zR 65), some (zR 66), some (zR 67), some (zR 68), some (zI l7), some (zI l8), some (zI l9), some (zI l10), some (zI l11), some (zI l12), o13, o14] [] σ' ∧ J2 σ' S' (B + 600) t := by
  obtain ⟨hC, ⟨h3, hw, hp, ho, h91, h92⟩, hm, hd⟩ := h
  have hO := hC.ok
  have hG := hO.1
  obtain ⟨v2, v3⟩ := hO.2 w
  obtain ⟨σ1, i1, i2, i3⟩ := t183 hw h3 hG hp v3.pp (moment := l12) (rule := l11) (by omega) (by omega)
  have hC1 : CR σ1 S B := hC.fl i2.fo.fl
  obtain ⟨σ2, j1, j2, j3⟩ := g_replan (by omega) hC1 w hmo hr
  obtain ⟨r1, _⟩ := paS_ok hG v3 (rule := l11) (moment := l12) (by omega) (by omega)
  have st : Stt S (paS S l12 l11) := r1.sta.stt
  have h32 := st.l3 hG h3
  have hw2 : Wst σ2 (paS S l12 l11) := ((i2.fo.ls hw).of st hG h3).fc j3
  have hp2 : Wpr σ2 (paS S l12 l11) := fun j o hl => by
    rw [j3.2 66 (by omega)]
    exact i3 j o hl
  have ho2 : Wol σ2 (paS S l12 l11) := fun j o hl => by
    have e : sL (paS S l12 l11) (5 * j + o) = sL S (5 * j + o) := r1 _ (by omega)
    rw [j3.2 66 (by omega), e]
    exact i2.ll ho j o ((st.live hG j o).mp hl)
  rw [X187_354, if_neg h10.1, if_pos h10.2, i1, zbV_some, j1, zbI_some, t180_3 hw2 h32 j2.ok.1 hp2, zbI_some, if_pos rfl]
  refine ⟨σ2, paS S l12 l11, rfl, j2, ⟨h32, hw2, hp2, ho2, ?_, ?_⟩, st.mch hG hm, st.due hd⟩
  · rw [j3.1, i2.1 9 (by decide), h91]; exact (r1 _ (by omega)).symm
  · rw [j3.1, i2.1 9 (by decide), h92]; exact (r1 _ (by omega)).symm
/-- what is counted as the plan is taken over -/
def fDf (S : Row) (j o : Nat) (a : Int) : Int := if sP S (5 * j + o) = sL S (5 * j + o) then a else a + 1
theorem fDf_1 {S : Row} (j o : Nat) (a : Int) : a ≤ fDf S j o a ∧ fDf S j o a ≤ a + 1 := by
  unfold fDf
  split <;> omega
/-- the first k places are taken over -/
def AcI (σ τ : zSt) (k : Nat) : Prop := (∀ q : Nat, q ≠ 66 → τ q = σ q) ∧ (∀ x : Nat, x % 4 ≠ 2 → τ 66 x = σ 66 x) ∧ (∀ e : Nat, e < k → τ 66 (4 * e + 2) = σ 66 (4 * e + 3)) ∧ ∀ e : Nat, k ≤ e → τ 66 (4 * e + 2) = σ 66 (4 * e + 2)
theorem q187_436 (hw : LW σ S) : ∀ (d k : Nat) (τ : zSt), k + d = 12 → AcI σ τ k → ∃ τ' : zSt, zE 187 436 [some (zR 90), some (zR 0), some (zR 9), some (zR 65), some (zR 66), some (zR 67), some (zR 68), some (zI l7), some (zI l8), some (zI l9), some (zI l10), some (zI l11), some (zI l12), some (zI (f1 (gL S (fDf S)) k 0)), some (zI (k : Int))] [] τ = zE 187 436 [some (zR 90), some (zR 0), some (zR 9), some (zR 65), some (zR 66), some (zR 67), some (zR 68), some (zI l7), some (zI l8), some (zI l9), some (zI l10), some (zI l11), some (zI l12), some (zI (f1 (gL S (fDf S)) 12 0)), some (zI 12)] [] τ' ∧ AcI σ τ' 12 := by
  obtain ⟨h3, h, hp, ho, _, _⟩ := id hw
  intro d
  induction d with
  | zero =>
    intro k τ hk hi
    have : k = 12 := by omega
    subst this
    exact ⟨τ, rfl, hi⟩
  | succ d ih =>
    intro k τ hk hi
    obtain ⟨j, o, hk2, ho4⟩ : ∃ j o : Nat, k = 4 * j + o ∧ o < 4 := ⟨k / 4, k % 4, by omega, by omega⟩
    have hj3 : j < 3 := by omega
    obtain ⟨i1, i2, i3, i4⟩ := hi
    have hi' : AcI σ (zup τ 66 (4 * k + 2) (τ 66 (4 * k + 3))) (k + 1) := by
      refine ⟨fun q hq => by rw [zup_off hq]; exact i1 q hq, fun x hx => by rw [zup_of (by omega)]; exact i2 x hx, fun e he => ?_, fun e he => by rw [zup_of (by omega)]; exact i4 e (by omega)⟩
      by_cases c : e = k
      · rw [c, zup_at]; exact i2 _ (by omega)
      · rw [zup_of (by omega)]; exact i3 e (by omega)
    obtain ⟨τ', e1, e2⟩ := ih (k + 1) _ (by omega) hi'
    rw [gL_s hk2 ho4] at e1
    have b := gL_le (S := S) (f := fDf S) fDf_1 k
    generalize f1 (gL S (fDf S)) k 0 = a at b e1 ⊢
    have nx : zw ((k : Int) + 1) = ((k + 1 : Nat) : Int) := zw_nat1 (by omega)
    have w0 : zw (4 * (k : Int)) = 4 * (k : Int) := zw_id (by omega) (by omega)
    have w2 : zw (4 * (k : Int) + 2) = 4 * (k : Int) + 2 := zw_id (by omega) (by omega)
    have w3 : zw (4 * (k : Int) + 3) = 4 * (k : Int) + 3 := zw_id (by omega) (by omega)
    have n2 : (4 * (k : Int) + 2).toNat = 4 * k + 2 := by omega
    have n3 : (4 * (k : Int) + 3).toNat = 4 * k + 3 := by omega
    have hwτ : Wst τ S := by
      obtain ⟨y1, y2, y3, y4⟩ := h
      exact ⟨by rw [i1 9 (by decide)]; exact y1, fun j hj => by rw [i1 65 (by decide)]; exact y2 j hj, fun j o hl => by rw [i2 _ (by omega), i2 _ (by omega)]; exact y3 j o hl, fun b hb => by rw [i1 68 (by decide)]; exact y4 b hb⟩
    have e172 := t172 hwτ hj3 ho4
    rw [← hk2] at e172
    refine ⟨τ', Eq.trans ?_ e1, e2⟩
    rw [X187_436, if_pos (by omega), e172, zbI_some]
    by_cases c : (o : Int) < rO S j
    · have hl : Live S j o := h3.live hj3 c
      have z2 : τ 66 (4 * k + 2) = sL S (5 * j + o) := by
        rw [i4 k (by omega), ← ho j o hl, show 4 * k + 2 = 16 * j + 4 * o + 2 by omega]
      have z3 : τ 66 (4 * k + 3) = sP S (5 * j + o) := by
        rw [i2 _ (by omega), ← hp j o hl, show 4 * k + 3 = 16 * j + 4 * o + 3 by omega]
      rw [if_pos c, if_neg i10, w0, w2, n2, zgd_pos (by omega), w3, n3, zgd_pos (by omega), X187_480, w0, w2, w3, n2, n3, zgd_pos (by omega), zgd_pos (by omega), nx, if_pos c]
      unfold fDf
      rw [z2, z3]
      by_cases c2 : sP S (5 * j + o) = sL S (5 * j + o)
      · rw [if_pos c2, if_pos c2.symm, zw_id (x := a + 0) (by omega) (by omega), Int.add_zero]
      · rw [if_neg c2, if_neg (fun q => c2 q.symm), zw_id (x := a + 1) (by omega) (by omega)]
    · rw [if_neg c, if_pos rfl, X187_479, X187_480, w0, w2, w3, n2, n3, zgd_pos (by omega), zgd_pos (by omega), nx, if_neg c, zw_id (x := a + 0) (by omega) (by omega), Int.add_zero]
theorem dif_eq (S : Row) : fA S (fDf S) 0 = dif S 3 2 := rfl
/-- the plan is taken over -/
theorem q187_ac (h : J2 σ S B t) (hB : 1150 ≤ B ∧ B ≤ 18000) (w : S 3 = 1) : ∃ (y13 y14 : Int) (σ' : zSt) (S' : Row), zE 187 354 [some (zR 90), some (zR 0), some (zR 9), some (zR 65), some (zR 66), some (zR 67), some (zR 68), some (zI l7), some (zI l8), some (zI l9), some (zI 5), some (zI l11), some (zI l12), o13, o14] [] σ = zE 187 682 [some (zR 90), some (zR 0), some (zR 9), some (zR 65), some (zR 66), some (zR 67), some (zR 68), some (zI l7), some (zI l8), some (zI l9), some (zI 5), some (zI l11), some (zI l12), some (zI y13), some (zI y14)] [] σ' ∧ J2 σ' S' B t := by
  obtain ⟨hC, hlw, hm, hd⟩ := h
  obtain ⟨h3, hw, hp, ho, h91, h92⟩ := id hlw
  have hO := hC.ok
  have hG := hO.1
  obtain ⟨σ1, e1, i1, i2, i3, i4⟩ := q187_436 (l7 := l7) (l8 := l8) (l9 := l9) (l10 := 5) (l11 := l11) (l12 := l12) hlw 12 0 σ rfl ⟨fun _ _ => rfl, fun _ _ => rfl, fun e he => by omega, fun _ _ => rfl⟩
  have e1' : zE 187 436 [some (zR 90), some (zR 0), some (zR 9), some (zR 65), some (zR 66), some (zR 67), some (zR 68), some (zI l7), some (zI l8), some (zI l9), some (zI 5), some (zI l11), some (zI l12), some (zI 0), some (zI 0)] [] σ = _ := e1
  have hC1 : CR σ1 S B := hC.fl (fun k k1 k2 => i1 k (by omega))
  obtain ⟨σ2, j1, j2, j3⟩ := g_accept hC1 w
  have e12 : f1 (gL S (fDf S)) 12 0 = dif S 3 2 := (gL_12 h3 (fDf S)).trans (dif_eq S)
  rw [X187_354, if_neg (by decide), if_neg (by decide), if_pos rfl, e1', e12, X187_436, if_neg (by decide), j1, zbI_some, if_pos rfl]
  have st : Stt S (cpS S 3 2) := (cpS_sta S).stt
  have h32 := st.l3 hG h3
  have hw1 : Wst σ1 S := by
    obtain ⟨y1, y2, y3, y4⟩ := hw
    exact ⟨by rw [i1 9 (by decide)]; exact y1, fun j hj => by rw [i1 65 (by decide)]; exact y2 j hj, fun j o hl => by rw [i2 _ (by omega), i2 _ (by omega)]; exact y3 j o hl, fun b hb => by rw [i1 68 (by decide)]; exact y4 b hb⟩
  refine ⟨_, _, σ2, cpS S 3 2, rfl, j2, ⟨h32, (hw1.of st hG h3).fc j3, fun j o hl => ?_, fun j o hl => ?_, ?_, ?_⟩, st.mch hG hm, st.due hd⟩
  · have hl' := (st.live hG j o).mp hl
    rw [j3.2 66 (by omega), cpS_P, i2 _ (by omega)]
    exact hp j o hl'
  · have hl' := (st.live hG j o).mp hl
    obtain ⟨x1, x2⟩ := h3.j3 hl'
    rw [j3.2 66 (by omega), cpS_L hG hl', show 16 * j + 4 * o + 2 = 4 * (4 * j + o) + 2 by omega, i3 _ (by omega), ← hp j o hl', show 4 * (4 * j + o) + 3 = 16 * j + 4 * o + 3 by omega]
  · rw [j3.1, i1 9 (by decide), h91]; exact (cpS_sta S _ (by omega)).symm
  · rw [j3.1, i1 9 (by decide), h92]; exact (cpS_sta S _ (by omega)).symm
end LAWH
