/-! ===== 58: an order carried out; carryOut ===== -/
/-- an order carried out; none: it can't be -/
noncomputable def exP (S : Row) (k f s u : Int) : Option Row :=
  if k = 100 then (if f < S 0 ∧ S 2 < 6 then some (brkS S f s u) else none)
  else if k = 106 then (if S 1 < 6 then some (jobS S f s) else none)
  else if k = 111 then (if f < S 1 ∧ s < S 0 ∧ rO S f.toNat < 5 then some (opS S f.toNat s u) else none)
  else some (mpS S f)
def OrR (k f s u : Int) : Prop := (k = 100 ∧ (0 ≤ f ∧ f ≤ 4) ∧ (0 ≤ s ∧ s ≤ 500) ∧ 1 ≤ u ∧ u ≤ 50) ∨ (k = 106 ∧ (1 ≤ f ∧ f ≤ 9) ∧ 0 ≤ s ∧ s ≤ 999) ∨ (k = 111 ∧ (0 ≤ f ∧ f ≤ 5) ∧ (0 ≤ s ∧ s ≤ 4) ∧ 1 ≤ u ∧ u ≤ 20) ∨ (k = 112 ∧ 0 ≤ f ∧ f ≤ 3)
theorem orP_rng {T : Row} {t a c : Nat} {k f s u : Int} (h : orP T t a = .inl (k, f, s, u, c)) : OrR k f s u := by
  obtain ⟨hk, _, _, b, hb⟩ := orP_pos h
  unfold bdP at hb
  unfold OrR
  split at hb
  · have := jP_pos hb; omega
  · split at hb
    · have := oP_pos hb; omega
    · split at hb
      · have := kP_pos hb; omega
      · split at hb
        · have := pP_pos hb; omega
        · cases hb
theorem exP_ok {S S' : Row} {k f s u B : Int} (hO : Ok S B) (hB : 1150 ≤ B) (hr : OrR k f s u) (e : exP S k f s u = some S') : Ok S' B := by
  unfold exP at e
  rcases hr with ⟨rfl, h1, h2, h3⟩ | ⟨rfl, h1, h2⟩ | ⟨rfl, h1, h2, h3⟩ | ⟨rfl, h1⟩
  · rw [if_pos rfl] at e
    split at e
    · rename_i q
      cases e
      exact brkS_ok hO (by omega) h2 h3 q.2
    · cases e
  · rw [if_neg (by decide), if_pos rfl] at e
    split at e
    · rename_i q
      cases e
      exact jobS_ok hO.1 h1 h2 q
    · cases e
  · rw [if_neg (by decide), if_neg (by decide), if_pos rfl] at e
    split at e
    · rename_i q
      cases e
      obtain ⟨n, rfl⟩ : ∃ n : Nat, f = (n : Int) := ⟨f.toNat, by omega⟩
      rw [toNat_n] at q ⊢
      exact opS_ok hO.1 q.1 (by omega) h3 q.2.2
    · cases e
  · rw [if_neg (by decide), if_neg (by decide), if_neg (by decide)] at e
    cases e
    exact mpS_ok hO.1 hB
theorem c32 {σ : zSt} {S : Row} {c : Nat} {H : Nat → Row} {t : Nat} {T : Row} {B : Int} (h : RC σ S c H t T) (a : RA S c H t T B) {k f s u : Int} (hr : OrR k f s u) (e4 : σ 8 4 = k) (e5 : σ 8 5 = f) (e6 : k ≠ 112 → σ 8 6 = s) (e7 : k = 111 ∨ k = 100 → σ 8 7 = u) :
    match exP S k f s u with
    | some S' => ∃ σ', zE 32 0 [some (zR 0), none, none, none] [] σ = zRI 1 σ' ∧ RC σ' S' c H t T ∧ FC σ σ' ∧ σ' 8 = σ 8
    | none => zE 32 0 [some (zR 0), none, none, none] [] σ = zRI 0 σ := by
  have hG := a.1.1
  rcases hr with ⟨rfl, h1, h2, h3⟩ | ⟨rfl, h1, h2⟩ | ⟨rfl, h1, h2, h3⟩ | ⟨rfl, h1⟩
  · by_cases q : f < S 0 ∧ S 2 < 6
    · have hx : exP S 100 f s u = some (brkS S f s u) := by unfold exP; rw [if_pos rfl, if_pos q]
      rw [hx]
      obtain ⟨σ2, e2, r2, fr2⟩ := s155 h.1 hG q.2 f s u
      refine ⟨σ2, ?_, h.main a.2.2.1 (fun k hk => fr2 k (by omega) (by omega)) r2, ⟨fr2 9 (by decide) (by decide), fun k hk => fr2 k (by omega) (by omega)⟩, ?_⟩
      · rw [X32_0, if_pos e4, s146, zbI_some, h.fld.1, e5, if_pos (c := 0 ≤ f ∧ f < S 0) ⟨h1.1, q.1⟩, if_neg i10, s152, zbI_some, h.fld.2.2.1, if_pos q.2, if_neg i10, e6 (by decide), e7 (Or.inr rfl), e2, zbI_some]
      · exact fr2 8 (by decide) (by decide)
    · have hx : exP S 100 f s u = none := by unfold exP; rw [if_pos rfl, if_neg q]
      rw [hx]
      show zE 32 0 [some (zR 0), none, none, none] [] σ = zRI 0 σ
      rw [X32_0, if_pos e4, s146, zbI_some, h.fld.1, e5]
      by_cases c1 : f < S 0
      · rw [if_pos (c := 0 ≤ f ∧ f < S 0) ⟨h1.1, c1⟩, if_neg i10, s152, zbI_some, h.fld.2.2.1, if_neg (c := S 2 < 6) (fun c2 => q ⟨c1, c2⟩), if_pos rfl]
      · rw [if_neg (c := 0 ≤ f ∧ f < S 0) (fun c2 => c1 c2.2), if_pos rfl]
  · by_cases q : S 1 < 6
    · have hx : exP S 106 f s u = some (jobS S f s) := by unfold exP; rw [if_neg (by decide), if_pos rfl, if_pos q]
      rw [hx]
      obtain ⟨σ2, e2, r2, fr2⟩ := s153 h.1 hG q f s
      refine ⟨σ2, ?_, h.main a.2.2.1 (fun k hk => fr2 k (by omega) (by omega)) r2, ⟨fr2 9 (by decide) (by decide), fun k hk => fr2 k (by omega) (by omega)⟩, ?_⟩
      · rw [X32_0, if_neg (by rw [e4]; decide), if_pos e4, s150, zbI_some, h.fld.2.1, if_pos q, if_neg i10, e5, e6 (by decide), e2, zbI_some]
      · exact fr2 8 (by decide) (by decide)
    · have hx : exP S 106 f s u = none := by unfold exP; rw [if_neg (by decide), if_pos rfl, if_neg q]
      rw [hx]
      show zE 32 0 [some (zR 0), none, none, none] [] σ = zRI 0 σ
      rw [X32_0, if_neg (by rw [e4]; decide), if_pos e4, s150, zbI_some, h.fld.2.1, if_neg q, if_pos rfl]
  · obtain ⟨n, rfl⟩ : ∃ n : Nat, f = (n : Int) := ⟨f.toNat, by omega⟩
    have hn6 : n < 6 := by omega
    have k1 : σ 12 n = rO S n := (h.1.2.1 n hn6).2.2
    by_cases q : (n : Int) < S 1 ∧ s < S 0 ∧ rO S n < 5
    · have hx : exP S 111 (n : Int) s u = some (opS S n s u) := by unfold exP; rw [if_neg (by decide), if_neg (by decide), if_pos rfl, toNat_n, if_pos q]
      rw [hx]
      obtain ⟨σ2, e2, r2, fr2⟩ := s154 h.1 hG q.1 q.2.2 s u
      refine ⟨σ2, ?_, h.main a.2.2.1 (fun k hk => fr2 k (by omega) (by omega)) r2, ⟨fr2 9 (by decide) (by decide), fun k hk => fr2 k (by omega) (by omega)⟩, ?_⟩
      · rw [X32_0, if_neg (by rw [e4]; decide), if_neg (by rw [e4]; decide), if_pos e4, s147, zbI_some, h.fld.2.1, e5, if_pos (c := 0 ≤ (n : Int) ∧ (n : Int) < S 1) ⟨h1.1, q.1⟩, if_neg i10, s146, zbI_some, h.fld.1, e6 (by decide), if_pos (c := 0 ≤ s ∧ s < S 0) ⟨h2.1, q.2.1⟩, if_neg i10, s151 hn6, zbI_some, k1, if_pos q.2.2, if_neg i10, e7 (Or.inl rfl), e2, zbI_some]
      · exact fr2 8 (by decide) (by decide)
    · have hx : exP S 111 (n : Int) s u = none := by unfold exP; rw [if_neg (by decide), if_neg (by decide), if_pos rfl, toNat_n, if_neg q]
      rw [hx]
      show zE 32 0 [some (zR 0), none, none, none] [] σ = zRI 0 σ
      rw [X32_0, if_neg (by rw [e4]; decide), if_neg (by rw [e4]; decide), if_pos e4, s147, zbI_some, h.fld.2.1, e5]
      by_cases c1 : (n : Int) < S 1
      · rw [if_pos (c := 0 ≤ (n : Int) ∧ (n : Int) < S 1) ⟨h1.1, c1⟩, if_neg i10, s146, zbI_some, h.fld.1, e6 (by decide)]
        by_cases c2 : s < S 0
        · rw [if_pos (c := 0 ≤ s ∧ s < S 0) ⟨h2.1, c2⟩, if_neg i10, s151 hn6, zbI_some, k1, if_neg (c := rO S n < 5) (fun c3 => q ⟨c1, c2, c3⟩), if_pos rfl]
        · rw [if_neg (c := 0 ≤ s ∧ s < S 0) (fun c3 => c2 c3.2), if_pos rfl]
      · rw [if_neg (c := 0 ≤ (n : Int) ∧ (n : Int) < S 1) (fun c3 => c1 c3.2), if_pos rfl]
  · have hx : exP S 112 f s u = some (mpS S f) := by unfold exP; rw [if_neg (by decide), if_neg (by decide), if_neg (by decide)]
    rw [hx]
    obtain ⟨σ2, e2, r2, fr2⟩ := s30 h.1 hG f
    refine ⟨σ2, ?_, h.main a.2.2.1 (fun k hk => fr2 k (by omega) (by omega) (by omega) (by omega) (by omega)) r2, ⟨fr2 9 (by decide) (by decide) (by decide) (by decide) (by decide), fun k hk => fr2 k (by omega) (by omega) (by omega) (by omega) (by omega)⟩, ?_⟩
    · rw [X32_0, if_neg (by rw [e4]; decide), if_neg (by rw [e4]; decide), if_neg (by rw [e4]; decide), e5, e2, zbI_some]
    · exact fr2 8 (by decide) (by decide) (by decide) (by decide) (by decide)
theorem m49 {τ : zSt} {S : Row} (hS : τ 65 = S) (hG : Good S) (h6 : S 1 < 6) (w d : Int) : zE 49 0 [some (zR 9), some (zI w), some (zI d), none] [] τ = zRI (S 1) (zset τ 65 (jobS S w d)) := by
  have g1 := hG.1.2.1
  obtain ⟨n, hn⟩ : ∃ n : Nat, S 1 = (n : Int) := ⟨(S 1).toNat, by omega⟩
  rw [X49_0, hS, hn]
  simp (disch := omega) only [zw_id, zgd_pos, zup_of, hS]
  have b1 : ((5 : Int) + 3 * (n : Int) + 0).toNat = 5 + 3 * n := by omega
  have b2 : ((5 : Int) + 3 * (n : Int) + 1).toNat = 6 + 3 * n := by omega
  have b3 : ((5 : Int) + 3 * (n : Int) + 2).toNat = 7 + 3 * n := by omega
  have b4 : (S 1).toNat = n := by omega
  rw [b1, b2, b3]
  simp only [zup_set, zset_at, zset_set, hS]
  unfold jobS
  rw [b4]
theorem m52 {τ : zSt} {S : Row} (hS : τ 65 = S) (hG : Good S) {n : Nat} (hj : (n : Int) < S 1) (h5 : rO S n < 5) (m u : Int) : zE 52 0 [some (zR 9), some (zI n), some (zI m), some (zI u), none] [] τ = zRI (rO S n) (zset τ 65 (opS S n m u)) := by
  have hn6 := hG.j6 hj
  have g5 := (hG.2.1 n hj).2.2
  obtain ⟨o, ho⟩ : ∃ o : Nat, rO S n = (o : Int) := ⟨(rO S n).toNat, by omega⟩
  have ho2 : nO S n = o := by unfold nO; omega
  rw [X52_0, s42_2 hn6, zbI_some, hS, ho, s43 hn6 (by omega), zbI_some, s43 hn6 (by omega)]
  simp (disch := omega) only [zw_id, zgd_pos, zup_of, hS, zbI_some]
  have b1 : (((23 + 4 * (5 * n + o) : Nat) : Int) + 0).toNat = 23 + 4 * (5 * n + o) := by omega
  have b2 : (((23 + 4 * (5 * n + o) : Nat) : Int) + 1).toNat = 24 + 4 * (5 * n + o) := by omega
  have b3 : ((5 : Int) + 3 * (n : Int) + 2).toNat = 7 + 3 * n := by omega
  have b4 : S (7 + 3 * n) = (o : Int) := ho
  rw [b1, b2, b3]
  simp (disch := omega) only [zup_set, zset_at, zset_set, hS, rset_of]
  rw [b4, zw_id (by omega) (by omega)]
  unfold opS
  rw [ho2, ho]
theorem m55 {τ : zSt} {S : Row} (hS : τ 65 = S) (hG : Good S) (h6 : S 2 < 6) (m f l : Int) : zE 55 0 [some (zR 9), some (zI m), some (zI f), some (zI l), none] [] τ = zRI (S 2) (zset τ 65 (brkS S m f l)) := by
  have g2 := hG.1.2.2.1
  obtain ⟨n, hn⟩ : ∃ n : Nat, S 2 = (n : Int) := ⟨(S 2).toNat, by omega⟩
  rw [X55_0, hS, hn]
  simp (disch := omega) only [zw_id, zgd_pos, zup_of, hS]
  have b1 : ((143 : Int) + 3 * (n : Int) + 0).toNat = 143 + 3 * n := by omega
  have b2 : ((143 : Int) + 3 * (n : Int) + 1).toNat = 144 + 3 * n := by omega
  have b3 : ((143 : Int) + 3 * (n : Int) + 2).toNat = 145 + 3 * n := by omega
  have b4 : (S 2).toNat = n := by omega
  rw [b1, b2, b3]
  simp only [zup_set, zset_at, zset_set, hS]
  unfold brkS
  rw [b4]
theorem m113 {τ : zSt} {S : Row} {c : Nat} {H : Nat → Row} {t : Nat} {T : Row} {B : Int} (g : RM τ S c H t T) (a : RA S c H t T B) {k f s u : Int} (hr : OrR k f s u) (e8 : τ 9 8 = k) (e9 : τ 9 9 = f) (e10 : k ≠ 112 → τ 9 10 = s) (e11 : k = 111 ∨ k = 100 → τ 9 11 = u) :
    match exP S k f s u with
    | some S' => zE 113 0 [some (zR 9), none] [] τ = zRI 1 (zset τ 65 S')
    | none => zE 113 0 [some (zR 9), none] [] τ = zRI 0 τ := by
  have hG := a.1.1
  have hS : τ 65 = S := g.1
  have hGτ : Good (τ 65) := by rw [hS]; exact hG
  have g2 := hG.1.2.2.1
  have g1 := hG.1.2.1
  rcases hr with ⟨rfl, h1, h2, h3⟩ | ⟨rfl, h1, h2⟩ | ⟨rfl, h1, h2, h3⟩ | ⟨rfl, h1⟩
  · have e54 : zE 54 0 [some (zR 9), some (zI f), some (zI s), some (zI u)] [] τ = zRI (if f < S 0 then (if S 2 = 6 then 3 else 0) else 1) τ := by
      rw [X54_0, s40 hGτ, zbI_some, hS]
      by_cases c1 : f < S 0
      · rw [if_pos (c := 0 ≤ f ∧ f < S 0) ⟨h1.1, c1⟩, if_neg i10, s38, zbI_some, if_pos (c := 0 ≤ s ∧ s ≤ 500) h2, if_neg i10, s38, zbI_some, if_pos (c := 1 ≤ u ∧ u ≤ 50) h3, if_neg i10, hS, if_pos c1]
      · rw [if_neg (c := 0 ≤ f ∧ f < S 0) (fun c3 => c1 c3.2), if_pos rfl, if_neg c1]
    have e0 : zE 113 0 [some (zR 9), none] [] τ = _ := X113_0 _
    rw [if_pos e8, e9, e10 (by decide), e11 (Or.inr rfl), e54, zbI_some] at e0
    by_cases q : f < S 0 ∧ S 2 < 6
    · have hx : exP S 100 f s u = some (brkS S f s u) := by unfold exP; rw [if_pos rfl, if_pos q]
      rw [hx]
      show zE 113 0 [some (zR 9), none] [] τ = _
      rw [e0, if_pos q.1, if_neg (show ¬ S 2 = 6 by omega), if_pos rfl, e9, e10 (by decide), e11 (Or.inr rfl), m55 hS hG q.2, zbI_some, zgd_pos (ite01 _), if_pos rfl]
    · have hx : exP S 100 f s u = none := by unfold exP; rw [if_pos rfl, if_neg q]
      rw [hx]
      show zE 113 0 [some (zR 9), none] [] τ = _
      rw [e0]
      by_cases c1 : f < S 0
      · rw [if_pos c1, if_pos (show S 2 = 6 by have : ¬ S 2 < 6 := fun c2 => q ⟨c1, c2⟩; omega), if_neg (by decide), zgd_pos (ite01 _), if_neg (by decide)]
      · rw [if_neg c1, if_neg i10, zgd_pos (ite01 _), if_neg i10]
  · have e48 : zE 48 0 [some (zR 9), some (zI f), some (zI s)] [] τ = zRI (if S 1 = 6 then 2 else 0) τ := by
      rw [X48_0, s38, zbI_some, if_pos (c := 1 ≤ f ∧ f ≤ 9) h1, if_neg i10, s38, zbI_some, if_pos (c := 0 ≤ s ∧ s ≤ 999) h2, if_neg i10, hS]
    have e0 : zE 113 0 [some (zR 9), none] [] τ = _ := X113_0 _
    rw [if_neg (by rw [e8]; decide), if_pos e8, e9, e10 (by decide), e48, zbI_some] at e0
    by_cases q : S 1 < 6
    · have hx : exP S 106 f s u = some (jobS S f s) := by unfold exP; rw [if_neg (by decide), if_pos rfl, if_pos q]
      rw [hx]
      show zE 113 0 [some (zR 9), none] [] τ = _
      rw [e0, if_neg (show ¬ S 1 = 6 by omega), if_pos rfl, e9, e10 (by decide), m49 hS hG q, zbI_some, zgd_pos (ite01 _), if_pos rfl]
    · have hx : exP S 106 f s u = none := by unfold exP; rw [if_neg (by decide), if_pos rfl, if_neg q]
      rw [hx]
      show zE 113 0 [some (zR 9), none] [] τ = _
      rw [e0, if_pos (show S 1 = 6 by omega), if_neg (by decide), zgd_pos (ite01 _), if_neg (by decide)]
  · obtain ⟨n, rfl⟩ : ∃ n : Nat, f = (n : Int) := ⟨f.toNat, by omega⟩
    have hn6 : n < 6 := by omega
    have e51 : zE 51 0 [some (zR 9), some (zI (n : Int)), some (zI s), some (zI u)] [] τ = zRI (if (n : Int) < S 1 then (if s < S 0 then (if rO S n = 5 then 3 else 0) else 1) else 1) τ := by
      rw [X51_0, s41 hGτ, zbI_some, hS]
      by_cases c1 : (n : Int) < S 1
      · rw [if_pos (c := 0 ≤ (n : Int) ∧ (n : Int) < S 1) ⟨h1.1, c1⟩, if_neg i10, s40 hGτ, zbI_some, hS, if_pos c1]
        by_cases c2 : s < S 0
        · rw [if_pos (c := 0 ≤ s ∧ s < S 0) ⟨h2.1, c2⟩, if_neg i10, s38, zbI_some, if_pos (c := 1 ≤ u ∧ u ≤ 20) h3, if_neg i10, s42_2 hn6, zbI_some, hS, if_pos c2]
        · rw [if_neg (c := 0 ≤ s ∧ s < S 0) (fun c3 => c2 c3.2), if_pos rfl, if_neg c2]
      · rw [if_neg (c := 0 ≤ (n : Int) ∧ (n : Int) < S 1) (fun c3 => c1 c3.2), if_pos rfl, if_neg c1]
    have e0 : zE 113 0 [some (zR 9), none] [] τ = _ := X113_0 _
    rw [if_neg (by rw [e8]; decide), if_neg (by rw [e8]; decide), if_pos e8, e9, e10 (by decide), e11 (Or.inl rfl), e51, zbI_some] at e0
    by_cases q : (n : Int) < S 1 ∧ s < S 0 ∧ rO S n < 5
    · have hx : exP S 111 (n : Int) s u = some (opS S n s u) := by unfold exP; rw [if_neg (by decide), if_neg (by decide), if_pos rfl, toNat_n, if_pos q]
      rw [hx]
      show zE 113 0 [some (zR 9), none] [] τ = _
      rw [e0, if_pos q.1, if_pos q.2.1, if_neg (show ¬ rO S n = 5 by omega), if_pos rfl, e9, e10 (by decide), e11 (Or.inl rfl), m52 hS hG q.1 q.2.2, zbI_some, zgd_pos (ite01 _), if_pos rfl]
    · have hx : exP S 111 (n : Int) s u = none := by unfold exP; rw [if_neg (by decide), if_neg (by decide), if_pos rfl, toNat_n, if_neg q]
      rw [hx]
      show zE 113 0 [some (zR 9), none] [] τ = _
      rw [e0]
      by_cases c1 : (n : Int) < S 1
      · have g5 := (hG.2.1 n c1).2.2
        rw [if_pos c1]
        by_cases c2 : s < S 0
        · rw [if_pos c2, if_pos (show rO S n = 5 by have : ¬ rO S n < 5 := fun c3 => q ⟨c1, c2, c3⟩; omega), if_neg (by decide), zgd_pos (ite01 _), if_neg (by decide)]
        · rw [if_neg c2, if_neg i10, zgd_pos (ite01 _), if_neg i10]
      · rw [if_neg c1, if_neg i10, zgd_pos (ite01 _), if_neg i10]
  · have hx : exP S 112 f s u = some (mpS S f) := by unfold exP; rw [if_neg (by decide), if_neg (by decide), if_neg (by decide)]
    rw [hx]
    show zE 113 0 [some (zR 9), none] [] τ = _
    rw [X113_0, if_neg (by rw [e8]; decide), if_neg (by rw [e8]; decide), if_neg (by rw [e8]; decide), e9, s68 hGτ, zbV_some, zgd_pos (ite01 _), if_pos rfl, hS]
