/-! ===== 52: accept, and what is asked ===== -/
theorem cpS_sta (S : Row) : Sta S (cpS S 3 2) := by
  unfold cpS mapS
  exact mapB_sta (Or.inl rfl)
theorem cpS_P (S : Row) (i : Nat) : sP (cpS S 3 2) i = sP S i := by
  unfold sP cpS mapS
  exact mapB_off (by omega)
theorem cpS_L {S : Row} (hG : Good S) {j o : Nat} (hl : Live S j o) : sL (cpS S 3 2) (5 * j + o) = sP S (5 * j + o) := mapS_live (q := 2) (g := fun j o => S (23 + 3 + 4 * (5 * j + o))) hG hl
theorem g_accept {σ : zSt} {S : Row} {B : Int} (h : CR σ S B) (c1 : S 3 = 1) : ∃ σ', zE 8 0 [some (zR 0)] [] σ = zRI (dif S 3 2) σ' ∧ CR σ' (cpS S 3 2) B ∧ FC σ σ' := by
  obtain ⟨c, H, t, T, h, a⟩ := h
  have hG := a.1.1
  rw [X8_0, h.fld.2.2.2.1, if_neg (show ¬ S 3 = 0 by omega)]
  obtain ⟨v2, v3⟩ := a.1.2 c1
  obtain ⟨σ1, e1, r1, fr1⟩ := s117 h a
  obtain ⟨σ2, e2, fr2, h18⟩ := s168 r1.cs hG (fun j o hl => r1.1.2.2.2.2 c1 j o hl)
  rw [e1, zbV_some, e2, zbI_some]
  have st := cpS_sta S
  have ok : Ok (cpS S 3 2) B := ⟨st.good hG, fun _ => ⟨v3.via (fun j o q => (st.live hG j o).mp q) (fun j o q => ⟨cpS_L hG ((st.live hG j o).mp q), st.m _, st.u _⟩), v3.via (fun j o q => (st.live hG j o).mp q) (fun j o q => ⟨cpS_P S _, st.m _, st.u _⟩)⟩⟩
  have ra := RA.push a (Int.le_refl _) ok
  have sh : ShC (shF σ2 0) (shA σ2 0) (cpS S 3 2) := by
    obtain ⟨⟨h0, h1, h2, h3', h4⟩, hj', hi', hb', hp⟩ := r1.1
    have o2 : σ2 2 = σ1 2 := fr2 2 (by decide)
    refine ⟨⟨?_, ?_, ?_, ?_, ?_⟩, fun j' hj2 => ?_, fun i hi => ?_, fun b hb => ?_, fun q j o hl => ?_⟩
    · rw [st.k0, ← h0]; simp only [shF]; rw [o2]
    · rw [st.k1, ← h1]; simp only [shF]; rw [o2]
    · rw [st.k2, ← h2]; simp only [shF]; rw [o2]
    · rw [st.k3, ← h3']; simp only [shF]; rw [o2]
    · rw [st.k4, ← h4]; simp only [shF]; rw [o2]
    · rw [st.w hj2, st.d hj2, st.o hj2]
      simp only [shA]
      rw [fr2 _ (by decide), fr2 _ (by decide), fr2 _ (by decide)]
      exact hj' j' hj2
    · rw [st.m, st.u]
      simp only [shA]
      rw [fr2 _ (by decide), fr2 _ (by decide)]
      exact hi' i hi
    · rw [st.bm, st.bf, st.bl]
      simp only [shA]
      rw [fr2 _ (by decide), fr2 _ (by decide), fr2 _ (by decide)]
      exact hb' b hb
    · have hl2 := (st.live hG j o).mp hl
      rw [cpS_L hG hl2, cpS_P]
      refine ⟨h18 j o hl2, ?_⟩
      simp only [shA]
      rw [fr2 _ (by decide)]
      exact (hp c1 j o hl2).2
  exact ⟨σ2, rfl, ⟨_, _, t, T, r1.main ra.2.2.1 (fun k hk => fr2 k (by omega)) sh, ra⟩, (fr2 9 (by decide)).trans (fr1 9 (by decide) (by decide)), fun k hk => (fr2 k (by omega)).trans (fr1 k (by omega) (by omega))⟩
theorem s33_1 {a b c : Int} {σ : zSt} (h : b ≤ a ∧ a ≤ c) : zE 33 0 [some (zI a), some (zI b), some (zI c)] [] σ = zRI 1 σ := by
  rw [s33, if_pos h]
section GV
variable {σ : zSt} {S : Row} {B : Int}
theorem g_v2 (h : CR σ S B) : zE 14 0 [some (zR 0), some (zI 2)] [] σ = zRI (opn S) σ := by
  rw [X14_0, s33_1 (by decide), zbI_some, if_neg i10, if_neg (by decide), if_neg (by decide), if_pos rfl, s156 h.sh.cs h.ok.1, zbI_some]
theorem g_v3 (h : CR σ S B) : zE 14 0 [some (zR 0), some (zI 3)] [] σ = zRI (S 2) σ := by
  have f2' : σ 2 7 = S 2 := h.sh.1.2.2.1
  rw [X14_0, s33_1 (by decide), zbI_some, if_neg i10, if_neg (by decide), if_neg (by decide), if_neg (by decide), if_pos rfl, f2']
theorem g_v4 (h : CR σ S B) : zE 14 0 [some (zR 0), some (zI 4)] [] σ = zRI (S 3) σ := by
  have f3' : σ 2 11 = S 3 := h.sh.1.2.2.2.1
  rw [X14_0, s33_1 (by decide), zbI_some, if_neg i10, if_neg (by decide), if_neg (by decide), if_neg (by decide), if_neg (by decide), if_pos rfl, f3']
  rcases h.ok.1.1.2.2.2 with w | w
  · rw [w, if_pos rfl]
  · rw [w, if_neg i10]
theorem g_v5 (h : CR σ S B) : zE 14 0 [some (zR 0), some (zI 5)] [] σ = zRI (S 4) σ := by
  have f4' : σ 2 14 = S 4 := h.sh.1.2.2.2.2
  rw [X14_0, s33_1 (by decide), zbI_some, if_neg i10, if_neg (by decide), if_neg (by decide), if_neg (by decide), if_neg (by decide), if_neg (by decide), if_pos rfl, f4']
theorem g_v0 (h : CR σ S B) (w : S 3 = 0) {k : Int} (hk : 6 ≤ k ∧ k ≤ 9) : zE 14 0 [some (zR 0), some (zI k)] [] σ = zRI (-1) σ := by
  have f3' : σ 2 11 = S 3 := h.sh.1.2.2.2.1
  rw [X14_0, s33, zbI_some, if_pos (c := 0 ≤ k ∧ k ≤ 9) (by omega), if_neg i10, if_neg (by omega), if_neg (by omega), if_neg (by omega), if_neg (by omega), if_neg (by omega), if_neg (by omega), f3', w, if_pos rfl]
theorem g_v6 (h : CR σ S B) (w : S 3 = 1) : zE 14 0 [some (zR 0), some (zI 6)] [] σ = zRI (ltS S 2) σ := by
  have f3' : σ 2 11 = S 3 := h.sh.1.2.2.2.1
  have hp := h.sh.2.2.2.2 w
  rw [X14_0, s33_1 (by decide), zbI_some, if_neg i10, if_neg (by decide), if_neg (by decide), if_neg (by decide), if_neg (by decide), if_neg (by decide), if_neg (by decide), f3', w, if_neg i10, X29_0, if_pos rfl, s161 h.sh.cs h.ok.1 (p := 2) (k := 18) (by rfl) (fun j o hl => (hp j o hl).1), zbI_some, zbI_some]
theorem g_v7 (h : CR σ S B) (w : S 3 = 1) : zE 14 0 [some (zR 0), some (zI 7)] [] σ = zRI (ltS S 3) σ := by
  have f3' : σ 2 11 = S 3 := h.sh.1.2.2.2.1
  have hp := h.sh.2.2.2.2 w
  rw [X14_0, s33_1 (by decide), zbI_some, if_neg i10, if_neg (by decide), if_neg (by decide), if_neg (by decide), if_neg (by decide), if_neg (by decide), if_neg (by decide), f3', w, if_neg i10, X29_0, if_neg (by decide), if_pos rfl, s161 h.sh.cs h.ok.1 (p := 3) (k := 19) (by rfl) (fun j o hl => (hp j o hl).2), zbI_some, zbI_some]
theorem g_v8 (h : CR σ S B) (hB : B ≤ 700000) (w : S 3 = 1) : ∃ m, zE 14 0 [some (zR 0), some (zI 8)] [] σ = zRI m σ ∧ Mx 0 (Pend S (nJ S)) m := by
  have f3' : σ 2 11 = S 3 := h.sh.1.2.2.2.1
  have hp := h.sh.2.2.2.2 w
  obtain ⟨v2, v3⟩ := h.ok.2 w
  obtain ⟨m, e1, e2⟩ := s162 h.sh.cs h.ok.1 v3 (by omega) (fun j o hl => (hp j o hl).2)
  refine ⟨m, ?_, e2⟩
  rw [X14_0, s33_1 (by decide), zbI_some, if_neg i10, if_neg (by decide), if_neg (by decide), if_neg (by decide), if_neg (by decide), if_neg (by decide), if_neg (by decide), f3', w, if_neg i10, X29_0, if_neg (by decide), if_neg (by decide), if_pos rfl, e1, zbI_some, zbI_some]
theorem g_v9 (h : CR σ S B) (hB : B ≤ 700000) (w : S 3 = 1) : zE 14 0 [some (zR 0), some (zI 9)] [] σ = zRI (htS S) σ := by
  have f3' : σ 2 11 = S 3 := h.sh.1.2.2.2.1
  have hp := h.sh.2.2.2.2 w
  obtain ⟨v2, v3⟩ := h.ok.2 w
  rw [X14_0, s33_1 (by decide), zbI_some, if_neg i10, if_neg (by decide), if_neg (by decide), if_neg (by decide), if_neg (by decide), if_neg (by decide), if_neg (by decide), f3', w, if_neg i10, X29_0, if_neg (by decide), if_neg (by decide), if_neg (by decide), s166 h.sh.cs h.ok.1 v3 (by omega) (fun j o hl => (hp j o hl).2), zbI_some, zbI_some]
theorem g_onMachine1 (h : CR σ S B) (w : S 3 = 1) {m i : Int} (c1 : 0 ≤ m ∧ m < S 0) (c2 : 0 ≤ i) : ∃ v, zE 16 0 [some (zR 0), some (zI m), some (zI i)] [] σ = zRI v σ ∧ Cod S m i v := by
  have f0' : σ 2 0 = S 0 := h.sh.1.1
  have f3' : σ 2 11 = S 3 := h.sh.1.2.2.2.1
  obtain ⟨v, e1, e2⟩ := s169 h.sh.cs h.ok.1 (fun j o hl => (h.sh.2.2.2.2 w j o hl).2) m i
  refine ⟨v, ?_, e2⟩
  rw [X16_0, s146, zbI_some, f0', if_pos c1, if_neg i10, if_neg (show ¬ i < 0 by omega), f3', if_neg (show ¬ S 3 = 0 by omega), e1, zbI_some]
theorem g_onMachine0 (h : CR σ S B) (w : S 3 = 0) {m i : Int} (c1 : 0 ≤ m ∧ m < S 0) (c2 : 0 ≤ i) : zE 16 0 [some (zR 0), some (zI m), some (zI i)] [] σ = zRI (-1) σ := by
  have f0' : σ 2 0 = S 0 := h.sh.1.1
  have f3' : σ 2 11 = S 3 := h.sh.1.2.2.2.1
  rw [X16_0, s146, zbI_some, f0', if_pos c1, if_neg i10, if_neg (show ¬ i < 0 by omega), f3', if_pos w]
theorem g_latenessBy (h : CR σ S B) {r : Int} (hr : 0 ≤ r ∧ r ≤ 3) : ∃ σ', zE 17 0 [some (zR 0), some (zI r)] [] σ = zRI (ltS (mpS S r) 3) σ' ∧ Fr3 σ σ' := by
  obtain ⟨σ', e1, e2⟩ := c132 h.sh.cs h.ok.1 r
  exact ⟨σ', by rw [X17_0, s34, zbI_some, if_pos hr, if_neg i10, e1, zbI_some], e2⟩
theorem g_bestRule (h : CR σ S B) : ∃ σ', zE 18 0 [some (zR 0), none, none, none, none] [] σ = zRI (bst4 (fun r => ltS (mpS S r) 3) 3 1 0) σ' ∧ Fr3 σ σ' := by
  have hG := h.ok.1
  obtain ⟨σ1, e1, f1⟩ := c132 h.sh.cs hG 0
  obtain ⟨σ2, e2, f2⟩ := c18 hG 3 1 0 σ1 none (by omega) (by omega) (h.sh.cs.same f1.shop)
  exact ⟨σ2, by rw [X18_0, e1, zbI_some, e2], f1.trans f2⟩
theorem g_latenessShifted1 (hB : 550 ≤ B ∧ B ≤ 700000) (h : CR σ S B) (c1 : S 3 = 1) : ∃ σ' Q, zE 19 0 [some (zR 0)] [] σ = zRI (ltS Q 3) σ' ∧ Fr3 σ σ' ∧ ShQ S Q (B + 600) := by
  have hG := h.ok.1
  have f3' : σ 2 11 = S 3 := h.sh.1.2.2.2.1
  obtain ⟨v2, v3⟩ := h.ok.2 c1
  have hV := v2.vo hG
  obtain ⟨σ2, Q, e2, fr2, hD, st, hpb, hq, hall⟩ := s139 h.sh.cs hG hV hB (fun j o hl => (h.sh.2.2.2.2 c1 j o hl).1)
  have hM : ∀ j o, Live S j o → sP Q (5 * j + o) ≤ B + 600 := fun j o hl => (hpb j o ((st.sta.live hG j o).mpr hl)).2
  refine ⟨σ2, Q, ?_, fr2, st, hq, hM⟩
  rw [X19_0, f3', if_neg (show ¬ S 3 = 0 by omega), e2, zbV_some, s131 ((h.sh.cs.same fr2.shop).of st.sta) (st.sta.good hG) (fun j o hl => by
    have hl2 := (st.sta.live hG j o).mp hl
    exact (hD.1 j (by rw [st.sta.k1]; exact hl2.1)).2 o (by rw [hall j (nJ_lt.mpr hl2.1)]; exact nO_lt.mpr hl2.2)), zbI_some]
theorem g_latenessShifted0 (h : CR σ S B) (w : S 3 = 0) : zE 19 0 [some (zR 0)] [] σ = zRI (-1) σ := by
  have f3' : σ 2 11 = S 3 := h.sh.1.2.2.2.1
  rw [X19_0, f3', if_pos w]
theorem g_bestReplan1 (hB : 999 ≤ B ∧ B ≤ 700000) (h : CR σ S B) (c1 : S 3 = 1) {m : Int} (c0 : 0 ≤ m ∧ m ≤ 999) : ∃ σ', zE 20 0 [some (zR 0), some (zI m), none, none, none, none] [] σ = zRI (zw (zw (1000000 * bst4 (fun r => ltS (paS S m r) 3) 3 1 0) + min (ltS (paS S m (bst4 (fun r => ltS (paS S m r) 3) 3 1 0)) 3) 999999)) σ' ∧ Fr3 σ σ' := by
  have hG := h.ok.1
  have f3' : σ 2 11 = S 3 := h.sh.1.2.2.2.1
  obtain ⟨v2, v3⟩ := h.ok.2 c1
  have stR : ∀ r, StaP S (paS S m r) := fun r => (paS_ok hG v3 (rule := r) (moment := m) (by omega) (by omega)).1
  have hA : ∀ j o, Live S j o → σ 19 (5 * j + o) = sP S (5 * j + o) := fun j o hl => (h.sh.2.2.2.2 c1 j o hl).2
  obtain ⟨σ1, e1, f1⟩ := c133 h.sh.cs hG v3.pp (m := m) (by omega) (by omega) hA stR 0
  obtain ⟨σ2, e2, f2⟩ := c20 hG v3.pp (m := m) (by omega) (by omega) stR 3 1 0 σ1 none (by omega) (by omega) (h.sh.cs.same f1.shop) (fun j o hl => by rw [f1 19 (by decide) (by decide) (by decide)]; exact hA j o hl)
  exact ⟨σ2, by rw [X20_0, s33, zbI_some, if_pos c0, if_neg i10, f3', if_neg (show ¬ S 3 = 0 by omega), e1, zbI_some, e2], f1.trans f2⟩
theorem g_bestReplan0 (h : CR σ S B) (w : S 3 = 0) {m : Int} (c0 : 0 ≤ m ∧ m ≤ 999) : zE 20 0 [some (zR 0), some (zI m), none, none, none, none] [] σ = zRI (-1) σ := by
  have f3' : σ 2 11 = S 3 := h.sh.1.2.2.2.1
  rw [X20_0, s33, zbI_some, if_pos c0, if_neg i10, f3', if_pos w]
theorem g_bestOvertime (h : CR σ S B) {r : Int} (hr : 0 ≤ r ∧ r ≤ 3) : ∃ σ', zE 21 0 [some (zR 0), some (zI r), none, none, none, none, none] [] σ = zRI (fA S (fOv S r) (-1, ltS (mpS S r) 3)).1 σ' ∧ Fr3 σ σ' := by
  have hG := h.ok.1
  obtain ⟨σ1, e1, f1⟩ := c132 h.sh.cs hG r
  obtain ⟨σ2, e2, f2⟩ := c21 (h.sh.cs.same f1.shop) hG r
  exact ⟨σ2, by rw [X21_0, s34, zbI_some, if_pos hr, if_neg i10, e1, zbI_some, e2], f1.trans f2⟩
end GV
