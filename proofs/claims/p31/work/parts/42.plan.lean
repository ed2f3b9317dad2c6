/-! ===== 42: the class's lateness; plan ===== -/
theorem s159 {σ : zSt} {S : Row} (hC : CS σ S) (hG : Good S) {p k : Nat} (hk : zal k = 30) (hA : ∀ j o, Live S j o → σ k (5 * j + o) = S (23 + p + 4 * (5 * j + o))) {j : Nat} (hj : (j : Int) < S 1) : zE 159 0 [some (zR 2), some (zI j), some (zR k), none] [] σ = zRI (if rO S j = 0 then 0 else zw (S (23 + p + 4 * (5 * j + (nO S j - 1))) + sU S (5 * j + (nO S j - 1)))) σ := by
  have hj6 := hG.j6 hj
  have g5 := (hG.2.1 j hj).2.2
  have c12 : σ 12 j = rO S j := (hC.2.1 j hj6).2.2
  rw [X159_0, zgd_pos (by omega), toNat_n, c12]
  by_cases c : rO S j = 0
  · rw [if_pos c, if_pos c]
  · rw [if_neg c, if_neg c, zgd_pos (by omega)]
    obtain ⟨o, ho⟩ : ∃ o : Nat, rO S j = (o : Int) + 1 := ⟨(rO S j - 1).toNat, by omega⟩
    have hn : nO S j - 1 = o := by unfold nO; omega
    have hl : Live S j o := ⟨hj, by omega⟩
    rw [hn, ho, zw_id (by omega) (by omega), show (o : Int) + 1 - 1 = (o : Int) by omega, s35 (by omega) (by omega), zbI_some, hk, zgd_pos (by omega), zgd_pos (by omega), toNat_n, hA j o hl, (hC.2.2.1 (5 * j + o) (by omega)).2]
theorem s160 {σ : zSt} {S : Row} (hC : CS σ S) (hG : Good S) {p k : Nat} (hk : zal k = 30) (hA : ∀ j o, Live S j o → σ k (5 * j + o) = S (23 + p + 4 * (5 * j + o))) {j : Nat} (hj : (j : Int) < S 1) : zE 160 0 [some (zR 2), some (zI j), some (zR k)] [] σ = zRI (lt S p j) σ := by
  have hj6 := hG.j6 hj
  have g9 := (hG.2.1 j hj).2.1
  rw [X160_0, s159 hC hG hk hA hj, zbI_some, zgd_pos (by omega), toNat_n, (hC.2.1 j hj6).2.1]
  unfold lt
  by_cases c : rO S j = 0
  · rw [if_pos c, if_pos c, zw_id (by omega) (by omega), show max 0 (0 - rD S j) = 0 by omega]
  · rw [if_neg c, if_neg c]
theorem s161 {σ : zSt} {S : Row} (hC : CS σ S) (hG : Good S) {p k : Nat} (hk : zal k = 30) (hA : ∀ j o, Live S j o → σ k (5 * j + o) = S (23 + p + 4 * (5 * j + o))) : zE 161 0 [some (zR 2), some (zR k), none, none] [] σ = zRI (ltS S p) σ := by
  have key := zloop1 (α := Int) (D := Unit) (nJ S) (fun j a => zw (a + zw (rW S j * lt S p j))) (fun j a _ => zE 161 4 [some (zR 2), some (zR k), some (zI a), some (zI (j : Int))] [] σ) (fun a => zRI a σ) (fun _ _ => True) ?_ ?_ 0 () trivial
  · rw [X161_0]
    exact key.1
  · intro j a _ hj _
    have hjl := nJ_lt.mp hj
    have hj6 := hG.j6 hjl
    refine ⟨⟨(), ?_⟩, trivial⟩
    show zE 161 4 [some (zR 2), some (zR k), some (zI a), some (zI (j : Int))] [] σ = _
    rw [X161_4, if_pos (by rw [hC.1.2.1]; exact hjl), zgd_pos (by omega), s160 hC hG hk hA hjl, zbI_some, toNat_n, (hC.2.1 j hj6).1, zw_nat1 (by omega)]
  · intro a _ _
    show zE 161 4 [some (zR 2), some (zR k), some (zI a), some (zI ((nJ S : Nat) : Int))] [] σ = _
    rw [X161_4, if_neg (by rw [hC.1.2.1]; have := hG.1.2.1; unfold nJ; omega)]
theorem ShC.cs {σ : zSt} {S : Row} (h : ShC (shF σ 0) (shA σ 0) S) : CS σ S := ⟨⟨h.1.1, h.1.2.1, h.1.2.2.1⟩, h.2.1, h.2.2.1, h.2.2.2.1⟩
/-- the rows of a new plan -/
noncomputable def nwF (S : Row) (rule : Int) : Row := fillM rule 0 30 (clrS S)
theorem mpS_off {S : Row} {rule : Int} (hG : Good S) {k : Nat} (hk : k < 23 ∨ 143 ≤ k ∨ k % 4 = 3 ∨ k % 4 = 0) (h3 : k ≠ 3) : mpS S rule k = S k := by
  obtain ⟨_, st, _⟩ := fill0_ok hG rule
  unfold mpS
  rw [rset_of h3]
  have e : cpS (fillM rule 0 30 (clrS S)) 3 2 k = fillM rule 0 30 (clrS S) k := by
    unfold cpS mapS
    exact mapB_off (by omega)
  rw [e]
  exact st.sta k hk
theorem mpS_3 {S : Row} {rule : Int} : mpS S rule 3 = 1 := rset_eq rfl
theorem mpS_live {S : Row} {rule : Int} (hG : Good S) {j o : Nat} (hl : Live S j o) : sL (mpS S rule) (5 * j + o) = sP (nwF S rule) (5 * j + o) ∧ sP (mpS S rule) (5 * j + o) = sP (nwF S rule) (5 * j + o) := by
  obtain ⟨_, st, _⟩ := fill0_ok hG rule
  have hj6 := hG.j6 hl.1
  have ho5 := hG.o5 hl
  have hl2 := (st.sta.live hG j o).mpr hl
  have e := mapS_live (S := nwF S rule) (q := 2) (g := fun j o => nwF S rule (23 + 3 + 4 * (5 * j + o))) (st.sta.good hG) hl2
  constructor
  · show mpS S rule (25 + 4 * (5 * j + o)) = _
    unfold mpS
    rw [rset_of (by omega)]
    exact e
  · show mpS S rule (26 + 4 * (5 * j + o)) = _
    unfold mpS
    rw [rset_of (by omega)]
    unfold cpS mapS
    exact mapB_off (by omega)
theorem mpS_lv {S : Row} {rule : Int} (hG : Good S) (j o : Nat) : Live (mpS S rule) j o ↔ Live S j o := by
  unfold Live rO
  rw [mpS_off hG (k := 1) (by omega) (by omega)]
  constructor
  · rintro ⟨x1, x2⟩
    have := hG.j6 x1
    rw [mpS_off hG (by omega) (by omega)] at x2
    exact ⟨x1, x2⟩
  · rintro ⟨x1, x2⟩
    have := hG.j6 x1
    refine ⟨x1, ?_⟩
    rw [mpS_off hG (by omega) (by omega)]
    exact x2
theorem mpS_good {S : Row} {rule : Int} (hG : Good S) : Good (mpS S rule) := by
  refine ⟨⟨by rw [mpS_off hG (by omega) (by omega)]; exact hG.1.1, by rw [mpS_off hG (by omega) (by omega)]; exact hG.1.2.1, by rw [mpS_off hG (by omega) (by omega)]; exact hG.1.2.2.1, Or.inr mpS_3⟩, fun j hj => ?_, fun j o hj ho => ?_, fun b hb => ?_⟩
  · rw [mpS_off hG (by omega) (by omega)] at hj
    have := hG.j6 hj
    unfold rW rD rO
    rw [mpS_off hG (by omega) (by omega), mpS_off hG (by omega) (by omega), mpS_off hG (by omega) (by omega)]
    exact hG.2.1 j hj
  · have hl := (mpS_lv hG j o).mp ⟨hj, ho⟩
    unfold sM sU
    rw [mpS_off hG (by omega) (by omega), mpS_off hG (by omega) (by omega)]
    exact hG.2.2.1 j o hl.1 hl.2
  · rw [mpS_off hG (by omega) (by omega)] at hb
    unfold bM bF bL
    rw [mpS_off hG (by omega) (by omega), mpS_off hG (by omega) (by omega), mpS_off hG (by omega) (by omega)]
    exact hG.2.2.2 b hb
/-- a component that reads as another row's plan is a plan -/
theorem Val.via {S F : Row} {p q : Nat} {B : Int} (h : Val F p B) (hl : ∀ j o, Live S j o → Live F j o) (e : ∀ j o, Live S j o → S (23 + q + 4 * (5 * j + o)) = F (23 + p + 4 * (5 * j + o)) ∧ sM S (5 * j + o) = sM F (5 * j + o) ∧ sU S (5 * j + o) = sU F (5 * j + o)) : Val S q B := by
  refine ⟨fun j o g => ?_, fun j o g => ?_, fun j o j' o' g g' hm hne => ?_⟩
  · rw [(e j o g).1]; exact h.1 j o (hl j o g)
  · have g2 : Live S j o := ⟨g.1, by have := g.2; omega⟩
    rw [(e j o g2).1, (e j o g2).2.2, (e j (o + 1) g).1]; exact h.2.1 j o (hl _ _ g)
  · obtain ⟨a1, a2, a3⟩ := e j o g
    obtain ⟨b1, b2, b3⟩ := e j' o' g'
    rw [a2, b2] at hm
    rw [a1, a3, b1, b3]; exact h.2.2 j o j' o' (hl j o g) (hl j' o' g') hm hne
theorem mpS_ok {S : Row} {rule B : Int} (hG : Good S) (hB : 1150 ≤ B) : Ok (mpS S rule) B := by
  obtain ⟨_, st, _⟩ := fill0_ok hG rule
  have hv := (fill0_val hG rule).up hB
  have hl : ∀ j o, Live (mpS S rule) j o → Live (fillM rule 0 30 (clrS S)) j o := fun j o g => (st.sta.live hG j o).mpr ((mpS_lv hG j o).mp g)
  have eM : ∀ i, sM (mpS S rule) i = sM (fillM rule 0 30 (clrS S)) i := fun i => by rw [st.sta.m]; exact mpS_off hG (by omega) (by omega)
  have eU : ∀ i, sU (mpS S rule) i = sU (fillM rule 0 30 (clrS S)) i := fun i => by rw [st.sta.u]; exact mpS_off hG (by omega) (by omega)
  exact ⟨mpS_good hG, fun _ => ⟨hv.via hl (fun j o g => ⟨(mpS_live hG ((mpS_lv hG j o).mp g)).1, eM _, eU _⟩), hv.via hl (fun j o g => ⟨(mpS_live hG ((mpS_lv hG j o).mp g)).2, eM _, eU _⟩)⟩⟩
theorem zcp_at {σ : zSt} {a d n j : Nat} (h : j < n) : zcp σ a d n d j = σ a j := if_pos ⟨rfl, h⟩
theorem zcp_off {σ : zSt} {a d n k : Nat} (h : k ≠ d) : (zcp σ a d n) k = σ k := by
  funext j
  unfold zcp
  rw [if_neg (fun q => h q.1)]
/-- the class takes a new plan -/
theorem s30 {σ : zSt} {S : Row} (h : ShC (shF σ 0) (shA σ 0) S) (hG : Good S) (rule : Int) : ∃ σ', zE 30 0 [some (zR 0), some (zI rule)] [] σ = zRI (ltS (mpS S rule) 3) σ' ∧ ShC (shF σ' 0) (shA σ' 0) (mpS S rule) ∧ ∀ k, k ≠ 2 → (k < 10 ∨ 20 ≤ k) → k ≠ 60 → k ≠ 61 → k ≠ 62 → σ' k = σ k := by
  obtain ⟨f1, f2, f3⟩ := fill0_ok hG rule
  obtain ⟨σ1, e1, fr, hD⟩ := s134 (h.cs.of (clrS_staP S).sta) ((clrS_staP S).sta.good hG) (clrS_clr hG) rule
  have hdr : ∀ j o, Live S j o → σ1 60 (5 * j + o) = sP (nwF S rule) (5 * j + o) := by
    intro j o hl
    have hj : (j : Int) < (fillM rule 0 30 (clrS S)) 1 := by rw [f2.sta.k1]; exact hl.1
    exact (hD.1 j hj).2 o (by rw [f3 j (nJ_lt.mpr hl.1)]; exact nO_lt.mpr hl.2)
  rw [X30_0, e1, zbV_some, X130_0_1_18]
  show ∃ σ', zbV (zRV (zcp σ1 60 18 30)) _ = _ ∧ _
  rw [zbV_some, X130_0_1_19]
  show ∃ σ', zbV (zRV (zcp (zcp σ1 60 18 30) 60 19 30)) _ = _ ∧ _
  rw [zbV_some]
  have off : ∀ k, k ≠ 2 → k ≠ 18 → k ≠ 19 → k ≠ 60 → k ≠ 61 → k ≠ 62 → (zup (zcp (zcp σ1 60 18 30) 60 19 30) 2 11 1) k = σ k := fun k a1 a2 a3 a4 a5 a6 => by
    rw [zup_off a1, zcp_off a3, zcp_off a2]; exact fr k a4 a5 a6
  have off2 : ∀ i, i ≠ 11 → (zup (zcp (zcp σ1 60 18 30) 60 19 30) 2 11 1) 2 i = σ 2 i := fun i hi => by
    rw [zup_of (by omega), zcp_off (by decide), zcp_off (by decide), fr 2 (by decide) (by decide) (by decide)]
  have a18 : ∀ j o, Live S j o → (zup (zcp (zcp σ1 60 18 30) 60 19 30) 2 11 1) 18 (5 * j + o) = sP (nwF S rule) (5 * j + o) := by
    intro j o hl
    have := hG.j6 hl.1; have := hG.o5 hl
    rw [zup_off (by decide), zcp_off (by decide), zcp_at (by omega)]; exact hdr j o hl
  have a19 : ∀ j o, Live S j o → (zup (zcp (zcp σ1 60 18 30) 60 19 30) 2 11 1) 19 (5 * j + o) = sP (nwF S rule) (5 * j + o) := by
    intro j o hl
    have := hG.j6 hl.1; have := hG.o5 hl
    rw [zup_off (by decide), zcp_at (by omega), zcp_off (by decide)]; exact hdr j o hl
  have sh : ShC (shF (zup (zcp (zcp σ1 60 18 30) 60 19 30) 2 11 1) 0) (shA (zup (zcp (zcp σ1 60 18 30) 60 19 30) 2 11 1) 0) (mpS S rule) := by
    obtain ⟨⟨h0, h1, h2, h3, h4⟩, hj', hi', hb', hp⟩ := h
    refine ⟨⟨?_, ?_, ?_, ?_, ?_⟩, fun j' hj2 => ⟨?_, ?_, ?_⟩, fun i hi => ⟨?_, ?_⟩, fun b hb => ⟨?_, ?_, ?_⟩, fun q j o hl => ?_⟩
    · rw [mpS_off hG (by omega) (by omega), ← h0]; exact off2 0 (by decide)
    · rw [mpS_off hG (by omega) (by omega), ← h1]; exact off2 1 (by decide)
    · rw [mpS_off hG (by omega) (by omega), ← h2]; exact off2 7 (by decide)
    · rw [mpS_3]; exact zup_at _ _ _ _
    · rw [mpS_off hG (by omega) (by omega), ← h4]; exact off2 14 (by decide)
    · unfold rW; rw [mpS_off hG (by omega) (by omega)]; simp only [shA]; rw [off _ (by decide) (by decide) (by decide) (by decide) (by decide) (by decide)]; exact (hj' j' hj2).1
    · unfold rD; rw [mpS_off hG (by omega) (by omega)]; simp only [shA]; rw [off _ (by decide) (by decide) (by decide) (by decide) (by decide) (by decide)]; exact (hj' j' hj2).2.1
    · unfold rO; rw [mpS_off hG (by omega) (by omega)]; simp only [shA]; rw [off _ (by decide) (by decide) (by decide) (by decide) (by decide) (by decide)]; exact (hj' j' hj2).2.2
    · unfold sM; rw [mpS_off hG (by omega) (by omega)]; simp only [shA]; rw [off _ (by decide) (by decide) (by decide) (by decide) (by decide) (by decide)]; exact (hi' i hi).1
    · unfold sU; rw [mpS_off hG (by omega) (by omega)]; simp only [shA]; rw [off _ (by decide) (by decide) (by decide) (by decide) (by decide) (by decide)]; exact (hi' i hi).2
    · unfold bM; rw [mpS_off hG (by omega) (by omega)]; simp only [shA]; rw [off _ (by decide) (by decide) (by decide) (by decide) (by decide) (by decide)]; exact (hb' b hb).1
    · unfold bF; rw [mpS_off hG (by omega) (by omega)]; simp only [shA]; rw [off _ (by decide) (by decide) (by decide) (by decide) (by decide) (by decide)]; exact (hb' b hb).2.1
    · unfold bL; rw [mpS_off hG (by omega) (by omega)]; simp only [shA]; rw [off _ (by decide) (by decide) (by decide) (by decide) (by decide) (by decide)]; exact (hb' b hb).2.2
    · have hl2 := (mpS_lv hG j o).mp hl
      obtain ⟨y1, y2⟩ := mpS_live (rule := rule) hG hl2
      rw [y1, y2]
      exact ⟨a18 j o hl2, a19 j o hl2⟩
  rw [s161 sh.cs (mpS_good hG) (p := 3) (by rfl) (fun j o hl => by
    have hl2 := (mpS_lv hG j o).mp hl
    rw [a19 j o hl2]; exact (mpS_live hG hl2).2.symm), zbI_some]
  exact ⟨_, rfl, sh, fun k a1 a2 a3 a4 a5 => off k a1 (by omega) (by omega) a3 a4 a5⟩
