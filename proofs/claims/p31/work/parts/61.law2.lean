/-! ===== 61: the law's fill, lateness, plan ===== -/
/-- the place of the one that is chosen -/
def blI (T : Row) (a : Int × Int × Int) : Int := if a.1 = -1 then -1 else 4 * a.1 + ((nxt T a.1.toNat : Nat) : Int)
theorem blI_no {T : Row} {a : Int × Int × Int} (h : a.1 = -1) : blI T a = -1 := if_pos h
theorem blI_at {T : Row} {a : Int × Int × Int} {j : Nat} (h : a.1 = (j : Int)) : blI T a = ((4 * j + nxt T j : Nat) : Int) := by
  unfold blI
  rw [if_neg (by omega), h, Int.toNat_natCast]
  omega
theorem rk_le {T : Row} (hG : Good T) {j o : Nat} (hl : Live T j o) (rule : Int) : -100 ≤ rk T rule j o ∧ rk T rule j o ≤ 1000 := by
  have h1 := hG.2.1 j hl.1
  have h2 := (hG.2.2.1 j o hl.1 hl.2).2
  have h3 := hG.o5 hl
  unfold rk
  split
  · omega
  · split
    · omega
    · split <;> omega
section LAWF
variable {σ : zSt} {T : Row}
theorem t179_in (h : Wst σ T) (h3 : L3 T) (hG : Good T) (hp : Wpr σ T) {B : Int} (hB : PB T B) (hB2 : 0 ≤ B ∧ B ≤ 800000) {rule moment : Int} (hm : 0 ≤ moment ∧ moment ≤ 800000) {j : Nat} (hj : j < 3) (r : Int) (a : Int × Int × Int) (ha : Bst T rule moment j a) (o10 o11 o12 : Option zVal) :
    ∃ p10 p11 p12, zE 179 19 [some (zI rule), some (zI moment), some (zR 9), some (zR 65), some (zR 66), some (zR 68), some (zI r), some (zI (blI T a)), some (zI a.2.1), some (zI (j : Int)), o10, o11, o12] [] σ = zE 179 19 [some (zI rule), some (zI moment), some (zR 9), some (zR 65), some (zR 66), some (zR 68), some (zI r), some (zI (blI T (fB T rule moment j a))), some (zI (fB T rule moment j a).2.1), some (zI ((j + 1 : Nat) : Int)), p10, p11, p12] [] σ := by
  have hjl : (j : Int) < T 1 := by rw [h3.1.2]; omega
  have nx : zw ((j : Int) + 1) = ((j + 1 : Nat) : Int) := zw_nat1 (by omega)
  rw [X179_19, if_pos (by omega), t177 h h3 hG hp hB hj, zbI_some]
  unfold nxL
  by_cases hlt : nxt T j < nO T j
  · have hl : Live T j (nxt T j) := ⟨hjl, nO_lt.mp hlt⟩
    obtain ⟨e1, e2⟩ := er_lst hG hB hB2 hl hm
    have e3 := (bse_le hG hB hl (moment := moment)).1
    have e4 := e1.1
    rw [if_pos hlt, if_neg (by omega), t178 h h3 hG hp hB hB2 hl hm, zbI_some]
    by_cases c0 : a.1 = -1
    · rw [blI_no c0, if_pos (by decide), X179_100, if_pos (by decide), nx, fB_pos ⟨hlt, Or.inl c0⟩, blI_at (a := ((j : Int), er T j (nxt T j) moment, rk T rule j (nxt T j))) rfl]
      exact ⟨_, _, _, rfl⟩
    · rcases ha with q | ⟨jb, b1, b2, b3, b4, b5⟩
      · exact absurd q c0
      have hjb : (jb : Int) < T 1 := by omega
      have hlb : Live T jb (nxt T jb) := ⟨hjb, nO_lt.mp b3⟩
      obtain ⟨f1', f2'⟩ := er_lst hG hB hB2 hlb hm
      have f3 := (bse_le hG hB hlb (moment := moment)).1
      have f4 := f1'.1
      have hbl := blI_at (T := T) b2
      rw [hbl, if_neg (by omega)]
      by_cases c2 : er T j (nxt T j) moment = a.2.1
      · have k1 := rk_le hG hl rule
        have k2 := rk_le hG hlb rule
        have k3 : zw (rk T rule j (nxt T j) + (if rule = 2 then 9 else 0) - (rk T rule jb (nxt T jb) + (if rule = 2 then 9 else 0))) = rk T rule j (nxt T j) - rk T rule jb (nxt T jb) := by
          by_cases w : rule = 2
          · rw [if_pos w, zw_id (by omega) (by omega)]; omega
          · rw [if_neg w, zw_id (by omega) (by omega)]; omega
        rw [if_pos c2, t176 h h3 hG hl, zbI_some, t176 h h3 hG hlb, zbI_some, k3, X179_100, nx]
        by_cases c3 : rk T rule j (nxt T j) < rk T rule jb (nxt T jb)
        · rw [if_pos (by omega), fB_pos ⟨hlt, Or.inr (Or.inr ⟨c2, by rw [b5]; exact c3⟩)⟩, blI_at (a := ((j : Int), er T j (nxt T j) moment, rk T rule j (nxt T j))) rfl]
          exact ⟨_, _, _, rfl⟩
        · rw [if_neg (by omega), fB_neg (fun q => by
            rcases q.2 with q | q | ⟨q1, q2⟩
            · exact c0 q
            · omega
            · rw [b5] at q2; exact c3 q2), hbl]
          exact ⟨_, _, _, rfl⟩
      · rw [if_neg c2, zw_id (x := er T j (nxt T j) moment - a.2.1) (by omega) (by omega), X179_100, nx]
        by_cases c3 : er T j (nxt T j) moment < a.2.1
        · rw [if_pos (by omega), fB_pos ⟨hlt, Or.inr (Or.inl c3)⟩, blI_at (a := ((j : Int), er T j (nxt T j) moment, rk T rule j (nxt T j))) rfl]
          exact ⟨_, _, _, rfl⟩
        · rw [if_neg (by omega), fB_neg (fun q => by
            rcases q.2 with q | q | ⟨q1, q2⟩
            · exact c0 q
            · exact c3 q
            · exact c2 q1), hbl]
          exact ⟨_, _, _, rfl⟩
  · rw [if_neg hlt, if_pos (by decide), nx, fB_neg (fun q => hlt q.1)]
    exact ⟨_, _, _, rfl⟩
end LAWF
theorem nJ3 {T : Row} (h3 : L3 T) : nJ T = 3 := by
  unfold nJ
  rw [h3.1.2]
  rfl
theorem t179_go {rule moment : Int} (hm : 0 ≤ moment ∧ moment ≤ 800000) : ∀ (n : Nat) (σ : zSt) (T : Row), Wst σ T → L3 T → Good T → Wpr σ T → ∀ B : Int, PB T B → moment ≤ B → 550 ≤ B → B + 20 * n ≤ 800000 → ∀ (r : Nat) (o7 o8 o9 o10 o11 o12 : Option zVal), r + n = 12 →
    ∃ σ', zE 179 3 [some (zI rule), some (zI moment), some (zR 9), some (zR 65), some (zR 66), some (zR 68), some (zI (r : Int)), o7, o8, o9, o10, o11, o12] [] σ = zRV σ' ∧ Fp σ σ' ∧ Wpr σ' (fillM rule moment n T) := by
  intro n
  induction n with
  | zero =>
    intro σ T h h3 hG hp B hB hB1 hB3 hB2 r o7 o8 o9 o10 o11 o12 hr
    exact ⟨σ, by rw [X179_3, if_neg (by omega)], Fp.rf σ, hp⟩
  | succ n ih =>
    intro σ T h h3 hG hp B hB hB1 hB3 hB2 r o7 o8 o9 o10 o11 o12 hr
    have nx : zw ((r : Int) + 1) = ((r + 1 : Nat) : Int) := zw_nat1 (by omega)
    have inner : ∀ j, j ≤ 3 → ∃ p10 p11 p12, zE 179 19 [some (zI rule), some (zI moment), some (zR 9), some (zR 65), some (zR 66), some (zR 68), some (zI (r : Int)), some (zI (-1)), some (zI 0), some (zI 0), o10, o11, o12] [] σ = zE 179 19 [some (zI rule), some (zI moment), some (zR 9), some (zR 65), some (zR 66), some (zR 68), some (zI (r : Int)), some (zI (blI T (f1 (fB T rule moment) j (-1, 0, 0)))), some (zI (f1 (fB T rule moment) j (-1, 0, 0)).2.1), some (zI (j : Int)), p10, p11, p12] [] σ := by
      intro j
      induction j with
      | zero => intro _; exact ⟨o10, o11, o12, rfl⟩
      | succ j ihj =>
        intro hj
        obtain ⟨p10, p11, p12, e⟩ := ihj (by omega)
        obtain ⟨q10, q11, q12, e2⟩ := t179_in h h3 hG hp hB (by omega) hm (show j < 3 by omega) (r : Int) (f1 (fB T rule moment) j (-1, 0, 0)) (f1_bst j) p10 p11 p12
        exact ⟨q10, q11, q12, e.trans e2⟩
    obtain ⟨p10, p11, p12, e⟩ := inner 3 (Nat.le_refl _)
    have eb : f1 (fB T rule moment) 3 (-1, 0, 0) = bstO T rule moment := by unfold bstO; rw [nJ3 h3]
    rw [eb] at e
    have hfm : fillM rule moment (n + 1) T = if (bstO T rule moment).1 = -1 then T else fillM rule moment n (setP T (5 * (bstO T rule moment).1.toNat + nxt T (bstO T rule moment).1.toNat) (bstO T rule moment).2.1) := rfl
    rw [X179_3, if_pos (by omega), e, X179_19, if_neg (by decide), nx, hfm]
    by_cases hx : (bstO T rule moment).1 = -1
    · have hn : fillM rule moment n T = T := by
        cases n with
        | zero => rfl
        | succ n => exact if_pos hx
      rw [blI_no hx, if_pos (by decide), if_pos hx]
      obtain ⟨σ', i1, i2, i3⟩ := ih σ T h h3 hG hp B hB hB1 hB3 (by omega) (r + 1) (some (zI (-1))) (some (zI (bstO T rule moment).2.1)) (some (zI ((3 : Nat) : Int))) p10 p11 p12 (by omega)
      rw [hn] at i3
      exact ⟨σ', i1, i2, i3⟩
    · obtain ⟨j, hj, h2, h3', h4, h5, h6, hl, h7⟩ := bstO_pick hG hB hm (by omega) hx
      obtain ⟨hj3, ho4⟩ := h3.j3 hl
      have hjt : (bstO T rule moment).1.toNat = j := by omega
      have hbl := blI_at (T := T) h2
      have w3 : zw (zw (4 * ((4 * j + nxt T j : Nat) : Int)) + 3) = 4 * ((4 * j + nxt T j : Nat) : Int) + 3 := by rw [zw_id (x := 4 * ((4 * j + nxt T j : Nat) : Int)) (by omega) (by omega), zw_id (by omega) (by omega)]
      have n3 : (4 * ((4 * j + nxt T j : Nat) : Int) + 3).toNat = 16 * j + 4 * nxt T j + 3 := by omega
      have st := setP_sta (S := T) (i := 5 * j + nxt T j) (v := (bstO T rule moment).2.1) (by omega)
      have fp : Fp σ (zup σ 66 (16 * j + 4 * nxt T j + 3) (bstO T rule moment).2.1) := Fp.up (by omega)
      have hp2 : Wpr (zup σ 66 (16 * j + 4 * nxt T j + 3) (bstO T rule moment).2.1) (setP T (5 * j + nxt T j) (bstO T rule moment).2.1) := by
        intro j' o' hl'
        have hl2 := (st.sta.live hG j' o').mp hl'
        obtain ⟨a1, a2⟩ := h3.j3 hl2
        rw [sP_set]
        by_cases c : j' = j ∧ o' = nxt T j
        · rw [c.1, c.2, zup_at, if_pos rfl]
        · rw [zup_of (by omega), if_neg (by omega)]
          exact hp j' o' hl2
      rw [hbl, if_neg (by omega), w3, n3, zgd_pos (by omega), if_neg hx, hjt]
      obtain ⟨σ', i1, i2, i3⟩ := ih (zup σ 66 (16 * j + 4 * nxt T j + 3) (bstO T rule moment).2.1) (setP T (5 * j + nxt T j) (bstO T rule moment).2.1) ((fp.fo.ls h).of st.sta.stt hG h3) (st.sta.stt.l3 hG h3) (st.sta.good hG) hp2 (B + 20) (pb_set hG hB hl (by omega)) (by omega) (by omega) (by omega) (r + 1) (some (zI ((4 * j + nxt T j : Nat) : Int))) (some (zI (bstO T rule moment).2.1)) (some (zI ((3 : Nat) : Int))) p10 p11 p12 (by omega)
      exact ⟨σ', i1, fp.trans i2, i3⟩
/-- there are twelve operations at most -/
theorem cnt12 {T : Row} (h3 : L3 T) : cnt T ≤ 12 := by
  have h := fJ_ind (no := nO T) (f := fun j o a => if sP T (5 * j + o) = -1 then a + 1 else a) (nJ T) 0 (fun j o a => a ≤ 4 * j + o) (by omega) (fun j o a _ _ h => by split <;> omega) (fun j a hj h => by
    have h1 := h3.2.2 j (by rw [← nJ3 h3]; exact hj)
    have h2 : nO T j ≤ 4 := by unfold nO; omega
    omega)
  have h2 := nJ3 h3
  unfold cnt fA
  omega
theorem t179 {σ : zSt} {T : Row} (h : Wst σ T) (h3 : L3 T) (hG : Good T) (hp : Wpr σ T) {B : Int} (hB : PB T B) {rule moment : Int} (hm : 0 ≤ moment ∧ moment ≤ B) (hB2 : 550 ≤ B ∧ B ≤ 700000) : ∃ σ', zE 179 0 [some (zI rule), some (zI moment), some (zR 9), some (zR 65), some (zR 66), some (zR 68), none, none, none, none, none, none, none] [] σ = zRV σ' ∧ Fp σ σ' ∧ Wpr σ' (fillM rule moment 30 T) := by
  obtain ⟨σ', i1, i2, i3⟩ := t179_go (rule := rule) (moment := moment) (by omega) 12 σ T h h3 hG hp B hB hm.2 hB2.1 (by omega) 0 none none none none none none (by omega)
  have e := fillM_stab (rule := rule) (moment := moment) (by omega) 18 12 T hG (cnt12 h3) B hB hm.2 hB2.1 (by omega)
  have e2 : fillM rule moment 30 T = fillM rule moment 12 T := e
  rw [X179_0, e2]
  exact ⟨σ', i1, i2, i3⟩
theorem t180 {σ : zSt} {S : Row} (h : Wst σ S) (h3 : L3 S) (hG : Good S) {p : Nat} (hp4 : p < 4) (hA : ∀ j o, Live S j o → σ 66 (16 * j + 4 * o + p) = S (23 + p + 4 * (5 * j + o))) : zE 180 0 [some (zI (p : Int)), some (zR 65), some (zR 66), none, none, none, none] [] σ = zRI (ltS S p) σ := by
  have key := zloop1 (α := Int) (D := Option zVal × Option zVal) 3 (fun j a => zw (a + zw (rW S j * lt S p j))) (fun j a d => zE 180 5 [some (zI (p : Int)), some (zR 65), some (zR 66), some (zI a), some (zI (j : Int)), d.1, d.2] [] σ) (fun a => zRI a σ) (fun _ _ => True) ?_ ?_ 0 (none, none) trivial
  · rw [X180_0]
    have e : ltS S p = f1 (fun j a => zw (a + zw (rW S j * lt S p j))) 3 0 := by unfold ltS; rw [nJ3 h3]
    rw [e]
    exact key.1
  · intro j a d hj _
    have hjl : (j : Int) < S 1 := by rw [h3.1.2]; omega
    have g := hG.2.1 j hjl
    have g4 := h3.2.2 j hj
    obtain ⟨a1, a2, a3⟩ := h.2.1 j hj
    have nx : zw ((j : Int) + 1) = ((j + 1 : Nat) : Int) := zw_nat1 (by omega)
    have u0 : zw (3 * (j : Int)) = 3 * (j : Int) := zw_id (by omega) (by omega)
    have u1 : zw (3 * (j : Int) + 1) = 3 * (j : Int) + 1 := zw_id (by omega) (by omega)
    have u2 : zw (3 * (j : Int) + 2) = 3 * (j : Int) + 2 := zw_id (by omega) (by omega)
    have m0 : (3 * (j : Int)).toNat = 3 * j := by omega
    have m1 : (3 * (j : Int) + 1).toNat = 3 * j + 1 := by omega
    have m2 : (3 * (j : Int) + 2).toNat = 3 * j + 2 := by omega
    have fin : ∀ (s : Int) (o5 o6 : Option zVal) (l5 : Int), o5 = some (zI l5) → lt S p j = max 0 s → ∃ d' : Option zVal × Option zVal, zE 180 53 [some (zI (p : Int)), some (zR 65), some (zR 66), some (zI a), some (zI (j : Int)), o5, o6] [zI s] σ = zE 180 5 [some (zI (p : Int)), some (zR 65), some (zR 66), some (zI (zw (a + zw (rW S j * lt S p j)))), some (zI ((j + 1 : Nat) : Int)), d'.1, d'.2] [] σ := by
      intro s o5 o6 l5 e5 hs
      subst e5
      refine ⟨(some (zI l5), some (zI s)), ?_⟩
      rw [X180_53, nx, u0, m0, a1, hs]
      by_cases c : s ≤ 0
      · rw [if_pos c, show max 0 s = 0 by omega, Int.mul_zero, show zw 0 = 0 by exact zw_id (by omega) (by omega)]
      · rw [if_neg c, zgd_pos (by omega), show max 0 s = s by omega]
    refine ⟨?_, trivial⟩
    show ∃ d' : Option zVal × Option zVal, zE 180 5 [some (zI (p : Int)), some (zR 65), some (zR 66), some (zI a), some (zI (j : Int)), d.1, d.2] [] σ = _
    rw [X180_5, if_pos (by omega), u0, u2, m2, a3, zgd_pos (by omega)]
    by_cases c : rO S j = 0
    · rw [if_pos c]
      exact fin 0 _ _ _ rfl (by unfold lt; rw [if_pos c]; rfl)
    · rw [if_neg c]
      obtain ⟨o, ho⟩ : ∃ o : Nat, rO S j = (o : Int) + 1 := ⟨(rO S j - 1).toNat, by omega⟩
      have hn : nO S j - 1 = o := by unfold nO; omega
      have hl : Live S j o := ⟨hjl, by omega⟩
      have ew : zw (zw (zw (4 * (j : Int)) + rO S j) - 1) = ((4 * j + o : Nat) : Int) := by rw [zw_id (x := 4 * (j : Int)) (by omega) (by omega), zw_id (x := 4 * (j : Int) + rO S j) (by omega) (by omega), zw_id (by omega) (by omega)]; omega
      have e173 := t173 (σ := σ) (j := j) (o := o) hj (by omega) hp4
      rw [hA j o hl, (h.2.2.1 j o hl).2] at e173
      rw [ew, e173, zbI_some, u1, m1, a2, zgd_pos (by omega)]
      exact fin _ _ _ _ rfl (by unfold lt; rw [if_neg c, hn])
  · intro a d _
    show zE 180 5 [some (zI (p : Int)), some (zR 65), some (zR 66), some (zI a), some (zI ((3 : Nat) : Int)), d.1, d.2] [] σ = _
    rw [X180_5, if_neg (by decide)]
theorem t180_3 {σ : zSt} {S : Row} (h : Wst σ S) (h3 : L3 S) (hG : Good S) (hp : Wpr σ S) : zE 180 0 [some (zI 3), some (zR 65), some (zR 66), none, none, none, none] [] σ = zRI (ltS S 3) σ := t180 h h3 hG (p := 3) (by omega) (fun j o hl => hp j o hl)
theorem t180_2 {σ : zSt} {S : Row} (h : Wst σ S) (h3 : L3 S) (hG : Good S) (hp : Wol σ S) : zE 180 0 [some (zI 2), some (zR 65), some (zR 66), none, none, none, none] [] σ = zRI (ltS S 2) σ := t180 h h3 hG (p := 2) (by omega) (fun j o hl => hp j o hl)
theorem mpS_stt {S : Row} {rule : Int} (hG : Good S) : Stt S (mpS S rule) := fun k hk h3 h4 => mpS_off hG (by omega) h3
theorem t181 {σ : zSt} {S : Row} (h : Wst σ S) (h3 : L3 S) (hG : Good S) (rule : Int) : ∃ σ', zE 181 0 [some (zI rule), some (zR 9), some (zR 65), some (zR 66), some (zR 68), none] [] σ = zRV σ' ∧ Fo σ σ' ∧ Wpr σ' (mpS S rule) ∧ Wol σ' (mpS S rule) ∧ σ' 9 1 = 1 := by
  have idx : ∀ e q : Nat, e < 12 → q < 4 → zw (zw (4 * (e : Int)) + (q : Int)) = 4 * (e : Int) + (q : Int) ∧ (4 * (e : Int) + (q : Int)).toNat = 4 * e + q := by
    intro e q he hq
    refine ⟨by rw [zw_id (x := 4 * (e : Int)) (by omega) (by omega), zw_id (by omega) (by omega)], by omega⟩
  -- no starts
  have l1 : ∀ (d e : Nat) (σ : zSt), e + d = 12 → ∃ σ1, zE 181 3 [some (zI rule), some (zR 9), some (zR 65), some (zR 66), some (zR 68), some (zI (e : Int))] [] σ = zE 181 3 [some (zI rule), some (zR 9), some (zR 65), some (zR 66), some (zR 68), some (zI 12)] [] σ1 ∧ Fp σ σ1 ∧ ((∀ e', e' < e → σ 66 (4 * e' + 3) = -1) → ∀ e', e' < 12 → σ1 66 (4 * e' + 3) = -1) := by
    intro d
    induction d with
    | zero =>
      intro e σ he
      have : e = 12 := by omega
      subst this
      exact ⟨σ, rfl, Fp.rf σ, fun q => q⟩
    | succ d ih =>
      intro e σ he
      obtain ⟨i1, i2⟩ := idx e 3 (by omega) (by omega)
      have i1' : zw (zw (4 * (e : Int)) + 3) = 4 * (e : Int) + 3 := i1
      have i2' : (4 * (e : Int) + 3).toNat = 4 * e + 3 := i2
      obtain ⟨σ1, a1, a2, a3⟩ := ih (e + 1) (zup σ 66 (4 * e + 3) (-1)) (by omega)
      refine ⟨σ1, ?_, (Fp.up (by omega)).trans a2, fun q => a3 (fun e' he' => ?_)⟩
      · rw [X181_3, if_pos (by omega), i1', i2', zgd_pos (by omega), zw_nat1 (by omega)]
        exact a1
      · by_cases c : e' = e
        · rw [c, zup_at]
        · rw [zup_of (by omega)]; exact q e' (by omega)
  obtain ⟨σ1, a1, a2, a3⟩ := l1 12 0 σ (by omega)
  have stc := (clrS_staP S).sta
  have hcl := clrS_clr hG
  have hp1 : Wpr σ1 (clrS S) := by
    intro j o hl
    obtain ⟨b1, b2⟩ := h3.j3 ((stc.live hG j o).mp hl)
    rw [hcl j o hl, show 16 * j + 4 * o + 3 = 4 * (4 * j + o) + 3 by omega]
    exact a3 (fun _ q => by omega) (4 * j + o) (by omega)
  obtain ⟨σ2, c1, c2, c3⟩ := t179 ((a2.fo.ls h).of stc.stt hG h3) (stc.stt.l3 hG h3) (stc.good hG) hp1 (B := 550) (fun j o hl => by rw [hcl j o hl]; omega) (rule := rule) (moment := 0) (by omega) (by omega)
  obtain ⟨_, stf, _⟩ := fill0_ok hG rule
  have hp2 : ∀ j o, Live S j o → σ2 66 (16 * j + 4 * o + 3) = sP (nwF S rule) (5 * j + o) := fun j o hl => c3 j o ((stf.sta.live hG j o).mpr hl)
  -- the old plan is the new one
  have l2 : ∀ (d e : Nat) (σ : zSt), e + d = 12 → ∃ σ', zE 181 38 [some (zI rule), some (zR 9), some (zR 65), some (zR 66), some (zR 68), some (zI (e : Int))] [] σ = zRV σ' ∧ Fo σ σ' ∧ σ' 9 1 = 1 ∧ (∀ e', e' < 12 → σ' 66 (4 * e' + 3) = σ 66 (4 * e' + 3)) ∧ ((∀ e', e' < e → σ 66 (4 * e' + 2) = σ 66 (4 * e' + 3)) → ∀ e', e' < 12 → σ' 66 (4 * e' + 2) = σ 66 (4 * e' + 3)) := by
    intro d
    induction d with
    | zero =>
      intro e σ he
      refine ⟨zup σ 9 1 1, ?_, ⟨fun k _ h9 => zup_off h9, fun i hi => zup_of (by omega), fun x _ => zup_of (by omega)⟩, zup_at _ _ _ _, fun e' _ => zup_of (by omega), fun q e' he' => ?_⟩
      · rw [X181_38, if_neg (by omega)]
      · rw [zup_of (by omega)]; exact q e' (by omega)
    | succ d ih =>
      intro e σ he
      obtain ⟨i1, i2⟩ := idx e 3 (by omega) (by omega)
      have i1' : zw (zw (4 * (e : Int)) + 3) = 4 * (e : Int) + 3 := i1
      have i2' : (4 * (e : Int) + 3).toNat = 4 * e + 3 := i2
      obtain ⟨i3, i4⟩ := idx e 2 (by omega) (by omega)
      have i3' : zw (zw (4 * (e : Int)) + 2) = 4 * (e : Int) + 2 := i3
      have i4' : (4 * (e : Int) + 2).toNat = 4 * e + 2 := i4
      obtain ⟨σ', b1, b2, b3, b4, b5⟩ := ih (e + 1) (zup σ 66 (4 * e + 2) (σ 66 (4 * e + 3))) (by omega)
      refine ⟨σ', ?_, (Fo.up (by omega)).trans b2, b3, fun e' he' => by rw [b4 e' he', zup_of (by omega)], fun q e' he' => ?_⟩
      · rw [X181_38, if_pos (by omega), i1', i2', i3', i4', zgd_pos (by omega), zgd_pos (by omega), zw_nat1 (by omega)]
        exact b1
      · rw [b5 (fun e2 he2 => ?_) e' he', zup_of (by omega)]
        rw [zup_of (k' := 66) (i' := 4 * e2 + 3) (by omega)]
        by_cases c : e2 = e
        · rw [c, zup_at]
        · rw [zup_of (by omega)]; exact q e2 (by omega)
  obtain ⟨σ3, d1, d2, d3, d4, d5⟩ := l2 12 0 σ2 (by omega)
  have d6 := d5 (fun _ q => by omega)
  refine ⟨σ3, ?_, (a2.fo.trans c2.fo).trans d2, fun j o hl => ?_, fun j o hl => ?_, d3⟩
  · have a1' : zE 181 3 [some (zI rule), some (zR 9), some (zR 65), some (zR 66), some (zR 68), some (zI 0)] [] σ = _ := a1
    rw [X181_0, a1', X181_3, if_neg (by decide), c1, zbV_some]
    exact d1
  · have hl2 := (mpS_lv hG j o).mp hl
    obtain ⟨b1, b2⟩ := h3.j3 hl2
    rw [(mpS_live hG hl2).2, ← hp2 j o hl2, show 16 * j + 4 * o + 3 = 4 * (4 * j + o) + 3 by omega]
    exact d4 _ (by omega)
  · have hl2 := (mpS_lv hG j o).mp hl
    obtain ⟨b1, b2⟩ := h3.j3 hl2
    rw [(mpS_live hG hl2).1, ← hp2 j o hl2, show 16 * j + 4 * o + 3 = 4 * (4 * j + o) + 3 by omega, show 16 * j + 4 * o + 2 = 4 * (4 * j + o) + 2 by omega]
    exact d6 _ (by omega)
