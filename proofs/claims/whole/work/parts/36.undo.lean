/-! ===== 36: copies on the model's side; restore ===== -/
/-- row D with n numbers of A from a, set from d on -/
def cpw (A : Row) (a : Nat) (D : Row) (d n : Nat) : Row := fun x => if d ≤ x ∧ x < d + n then A (a + (x - d)) else D x
theorem s37_go {k0 k2 : Nat} (hk : k0 ≠ k2) {a d : Nat} (ha : (a : Int) + 161 ≤ zal k0) (hd : (d : Int) + 161 ≤ zal k2) (hb : a ≤ 1000 ∧ d ≤ 1000) (σ : zSt) : ∀ (r n : Nat), n + r = 161 → zE 37 3 [some (zR k0), some (zI a), some (zR k2), some (zI d), some (zI (n : Int))] [] (zset σ k2 (cpw (σ k0) a (σ k2) d n)) = zRV (zset σ k2 (cpw (σ k0) a (σ k2) d 161)) := by
  intro r
  induction r with
  | zero =>
    intro n hn
    rw [X37_3, if_neg (by omega), show n = 161 by omega]
  | succ r ih =>
    intro n hn
    rw [X37_3, if_pos (by omega), zw_id (x := (a : Int) + n) (by omega) (by omega), zw_id (x := (d : Int) + n) (by omega) (by omega), zgd_pos (by omega), zgd_pos (by omega), zw_nat1 (by omega), zset_ne _ _ hk, zup_set, zset_set, zset_at]
    have e1 : ((a : Int) + n).toNat = a + n := by omega
    have e2 : ((d : Int) + n).toNat = d + n := by omega
    have e : rset (cpw (σ k0) a (σ k2) d n) (d + n) (σ k0 (a + n)) = cpw (σ k0) a (σ k2) d (n + 1) := by
      funext x
      unfold rset cpw
      by_cases c : x = d + n
      · rw [if_pos c, if_pos (by omega), show a + (x - d) = a + n by omega]
      · rw [if_neg c]
        by_cases c2 : d ≤ x ∧ x < d + n
        · rw [if_pos c2, if_pos (by omega)]
        · rw [if_neg c2, if_neg (by omega)]
    rw [e1, e2, e]
    exact ih (n + 1) (by omega)
theorem cpw_0 {A D : Row} {a d : Nat} : cpw A a D d 0 = D := by
  funext x
  unfold cpw
  rw [if_neg (by omega)]
theorem s37 {k0 k2 : Nat} (hk : k0 ≠ k2) {a d : Nat} (ha : (a : Int) + 161 ≤ zal k0) (hd : (d : Int) + 161 ≤ zal k2) (hb : a ≤ 1000 ∧ d ≤ 1000) (σ : zSt) : zE 37 0 [some (zR k0), some (zI a), some (zR k2), some (zI d), none] [] σ = zRV (zset σ k2 (cpw (σ k0) a (σ k2) d 161)) := by
  have h := s37_go hk ha hd hb σ 161 0 rfl
  rw [cpw_0, zset_self] at h
  rw [X37_0]
  exact h
/-- the saved rows, one place down -/
def dnw (D : Row) (n : Nat) : Row := fun x => if x < n then D (x + 161) else D x
theorem s39_go (σ : zSt) : ∀ (r n : Nat), n + r = 483 → zE 39 10 [some (zR 9), some (zI (n : Int))] [] (zset σ 67 (dnw (σ 67) n)) = zE 39 10 [some (zR 9), some (zI 483)] [] (zset σ 67 (dnw (σ 67) 483)) := by
  intro r
  induction r with
  | zero => intro n hn; rw [show n = 483 by omega]; rfl
  | succ r ih =>
    intro n hn
    rw [X39_10, if_pos (by omega), zw_id (x := (n : Int) + 161) (by omega) (by omega), zgd_pos (by omega), zgd_pos (by omega), zw_nat1 (by omega), toNat_n, zup_set, zset_set, zset_at]
    have e1 : ((n : Int) + 161).toNat = n + 161 := by omega
    have e : rset (dnw (σ 67) n) n (dnw (σ 67) n (n + 161)) = dnw (σ 67) (n + 1) := by
      funext x
      unfold rset dnw
      by_cases c : x = n
      · rw [if_pos c, if_neg (by omega), if_pos (by omega), c]
      · rw [if_neg c]
        by_cases c2 : x < n
        · rw [if_pos c2, if_pos (by omega)]
        · rw [if_neg c2, if_neg (by omega)]
    rw [e1, e]
    exact ih (n + 1) (by omega)
theorem dnw_0 {D : Row} : dnw D 0 = D := by
  funext x
  unfold dnw
  rw [if_neg (by omega)]
/-- the stack after a saving -/
def psh (c : Nat) (D S : Row) : Row := if c = 4 then cpw S 0 (dnw D 483) 483 161 else cpw S 0 D (161 * c) 161
theorem s39 {σ : zSt} {c : Nat} (hc : c ≤ 4) (h : σ 9 4 = (c : Int)) : zE 39 0 [some (zR 9), none] [] σ = zRV (zup (zset σ 67 (psh c (σ 67) (σ 65))) 9 4 ((pshC c : Nat) : Int)) := by
  have fin : ∀ (τ : zSt) (n : Nat) (o : Option zVal), n < 4 → τ 9 4 = (n : Int) → zE 39 49 [some (zR 9), o] [] τ = zRV (zup (zset τ 67 (cpw (τ 65) 0 (τ 67) (161 * n) 161)) 9 4 ((n + 1 : Nat) : Int)) := by
    intro τ n o hn h9
    have e := s37 (k0 := 65) (k2 := 67) (by decide) (a := 0) (d := 161 * n) (by show ((0 : Nat) : Int) + 161 ≤ 161; decide) (by show ((161 * n : Nat) : Int) + 161 ≤ 644; omega) ⟨by omega, by omega⟩ τ
    rw [X39_49, h9, zw_id (x := (n : Int) * 161) (by omega) (by omega), show (n : Int) * 161 = ((161 * n : Nat) : Int) by omega]
    have e' : zE 37 0 [some (zR 65), some (zI 0), some (zR 67), some (zI ((161 * n : Nat) : Int)), none] [] τ = _ := e
    rw [e']
    show zRV (zup (zset τ 67 (cpw (τ 65) 0 (τ 67) (161 * n) 161)) 9 4 (zw (zset τ 67 (cpw (τ 65) 0 (τ 67) (161 * n) 161) 9 4 + 1))) = _
    rw [zset_ne _ _ (by decide), h9, zw_nat1 (by omega)]
  rw [X39_0, h]
  by_cases c4 : c = 4
  · rw [if_pos (by omega)]
    have g := s39_go σ 483 0 rfl
    rw [dnw_0, zset_self] at g
    have g' : zE 39 10 [some (zR 9), some (zI 0)] [] σ = _ := g
    rw [g', X39_10, if_neg (by decide), zset_ne _ _ (by decide), h, fin _ 3 _ (by omega) (by rw [zup_at, c4]; decide), zup_off (by decide), zup_off (by decide), zset_ne _ _ (by decide), zset_at]
    have e1 : ∀ (X Y : Row) (v w : Int), zup (zset (zup (zset σ 67 X) 9 4 v) 67 Y) 9 4 w = zup (zset σ 67 Y) 9 4 w := by
      intro X Y v w
      funext k x
      unfold zup zset
      by_cases a1 : k = 9 ∧ x = 4
      · rw [if_pos a1, if_pos a1]
      · rw [if_neg a1, if_neg a1]
        by_cases a2 : k = 67
        · rw [if_pos a2, if_pos a2]
        · rw [if_neg a2, if_neg a2]
          show (if k = 9 ∧ x = 4 then v else if k = 67 then X x else σ k x) = σ k x
          rw [if_neg a1, if_neg a2]
    rw [e1]
    unfold psh pshC
    rw [if_pos c4, if_pos c4]
  · rw [if_neg (by omega), fin σ c none (by omega) h]
    unfold psh pshC
    rw [if_neg c4, if_neg c4]
theorem RM.push {σ : zSt} {S : Row} {c : Nat} {H : Nat → Row} {t : Nat} {T : Row} (h : RM σ S c H t T) (hc : c ≤ 4) : RM (zup (zset σ 67 (psh c (σ 67) (σ 65))) 9 4 ((pshC c : Nat) : Int)) S (pshC c) (pshH c H S) t T := by
  obtain ⟨h1, h2, h3, h4, h5⟩ := h
  refine ⟨by rw [zup_off (by decide), zset_ne _ _ (by decide)]; exact h1, zup_at _ _ _ _, fun i hi => ?_, ?_, fun i hi => ?_⟩
  · intro k hk
    rw [zup_off (by decide), zset_at, h1]
    show psh c (σ 67) S (161 * i + k) = pshH c H S i k
    unfold pshC at hi
    unfold psh pshH
    by_cases c4 : c = 4
    · rw [if_pos c4] at hi ⊢
      rw [if_pos c4]
      unfold cpw dnw
      by_cases i3 : i < 3
      · rw [if_neg (by omega), if_pos (by omega), if_pos i3]
        have := h3 (i + 1) (by omega) k hk
        rw [← this]
        show σ 67 (161 * i + k + 161) = σ 67 (161 * (i + 1) + k)
        rw [show 161 * i + k + 161 = 161 * (i + 1) + k by omega]
      · rw [if_pos (by omega), if_neg i3, show 0 + (161 * i + k - 483) = k by omega]
    · rw [if_neg c4] at hi ⊢
      rw [if_neg c4]
      unfold cpw
      by_cases i3 : i < c
      · rw [if_neg (by omega), if_pos i3]
        exact h3 i i3 k hk
      · rw [if_pos (by omega), if_neg i3, show 0 + (161 * i + k - 161 * c) = k by omega]
  · rw [zup_of (by omega), zset_ne _ _ (by decide)]; exact h4
  · rw [zup_off (by decide), zset_ne _ _ (by decide)]; exact h5 i hi
/-- the row that comes back -/
def undS (S X : Row) : Row := fun x => if x < 161 then X x else S x
theorem undS_req {S X : Row} : Req X (undS S X) := fun k hk => by
  unfold undS
  rw [if_pos hk]
theorem s115 {σ : zSt} {S : Row} {c : Nat} {H : Nat → Row} {t : Nat} {T : Row} (h : RM σ S c H t T) (hc : 1 ≤ c ∧ c ≤ 4) : ∃ σ', zE 115 0 [some (zR 9)] [] σ = zRI ((c - 1 : Nat) : Int) σ' ∧ RM σ' (undS S (H (c - 1))) (c - 1) H t T ∧ σ' 9 0 = 0 ∧ ∀ k, k ≠ 9 → k < 65 → σ' k = σ k := by
  obtain ⟨h1, h2, h3, h4, h5⟩ := h
  rw [X115_0, h2, if_neg (by omega), X115_13, zup_at, if_pos (by omega), zup_at, zup_of (by omega), h2]
  rw [zw_id (x := (c : Int) - 1) (by omega) (by omega), show (c : Int) - 1 = ((c - 1 : Nat) : Int) by omega, zw_id (x := ((c - 1 : Nat) : Int) * 161) (by omega) (by omega), show ((c - 1 : Nat) : Int) * 161 = ((161 * (c - 1) : Nat) : Int) by omega]
  have e := s37 (k0 := 67) (k2 := 65) (by decide) (a := 161 * (c - 1)) (d := 0) (by show ((161 * (c - 1) : Nat) : Int) + 161 ≤ 644; omega) (by show ((0 : Nat) : Int) + 161 ≤ 161; decide) ⟨by omega, by omega⟩ (zup (zup σ 9 0 0) 9 4 ((c - 1 : Nat) : Int))
  have e' : zE 37 0 [some (zR 67), some (zI ((161 * (c - 1) : Nat) : Int)), some (zR 65), some (zI 0), none] [] (zup (zup σ 9 0 0) 9 4 ((c - 1 : Nat) : Int)) = _ := e
  rw [e']
  refine ⟨_, rfl, ⟨?_, ?_, fun i hi => ?_, ?_, fun i hi => ?_⟩, ?_, fun k hk1 hk2 => ?_⟩
  · rw [zset_at, zup_off (by decide), zup_off (by decide), zup_off (by decide), zup_off (by decide), h1]
    funext x
    unfold cpw undS
    by_cases c1 : x < 161
    · rw [if_pos (by omega), if_pos c1]
      have := h3 (c - 1) (by omega) x c1
      rw [← this]
      show σ 67 (161 * (c - 1) + (x - 0)) = σ 67 (161 * (c - 1) + x)
      rw [Nat.sub_zero]
    · rw [if_neg (by omega), if_neg c1]
  · rw [zset_ne _ _ (by decide), zup_at]
  · rw [zset_ne _ _ (by decide), zup_off (by decide), zup_off (by decide)]
    exact h3 i (by omega)
  · rw [zset_ne _ _ (by decide), zup_of (by omega), zup_of (by omega)]; exact h4
  · rw [zset_ne _ _ (by decide), zup_off (by decide), zup_off (by decide)]; exact h5 i hi
  · rw [zset_ne _ _ (by decide), zup_of (by omega), zup_at]
  · rw [zset_ne _ _ (by omega), zup_off hk1, zup_off hk1]
theorem s118 {σ : zSt} {S : Row} {c : Nat} {H : Nat → Row} {t : Nat} {T : Row} {B : Int} (h : RC σ S c H t T) (hA : RA S c H t T B) (hc : 1 ≤ c) : ∃ σ', zE 118 0 [some (zR 7), some (zR 2)] [] σ = zRV σ' ∧ RC σ' (undS S (H (c - 1))) (c - 1) H t T ∧ σ' 9 = σ 9 ∧ ∀ k, 65 ≤ k → σ' k = σ k := by
  obtain ⟨h1, ⟨n, hn, h2, h3⟩, h4, h5, h6⟩ := h
  obtain ⟨g1, g2, g3, _⟩ := hA
  have gH := g3 (c - 1) (by omega)
  have a1 := h3 (c - 1) (by omega)
  rw [show (n + 4 - c + (c - 1)) % 4 = (n + 3) % 4 by omega] at a1
  have hpl : σ (3 + (n + 3) % 4) 11 = 0 ∨ σ (3 + (n + 3) % 4) 11 = 1 := by
    have e : shF σ (1 + (n + 3) % 4) 11 = H (c - 1) 3 := a1.1.2.2.2.1
    unfold shF at e
    rw [show 2 + (1 + (n + 3) % 4) = 3 + (n + 3) % 4 by omega] at e
    rw [e]; exact gH.1.1.2.2.2
  have fin : ∀ (m : Nat) (σ1 : zSt), m = (n + 3) % 4 → Cpd (zup (zup σ 7 1 (m : Int)) 7 2 ((c - 1 : Nat) : Int)) σ1 0 (1 + m) → RC σ1 (undS S (H (c - 1))) (c - 1) H t T ∧ σ1 9 = σ 9 ∧ ∀ k, 65 ≤ k → σ1 k = σ k := by
    intro m σ1 hm cp
    obtain ⟨cp1, cp2⟩ := cp
    have off : ∀ k, k ≠ 7 → (zup (zup σ 7 1 (m : Int)) 7 2 ((c - 1 : Nat) : Int)) k = σ k := fun k hk => by rw [zup_off hk, zup_off hk]
    have keep : ∀ k, k ≠ 7 → k ≠ 2 → (k < 10 ∨ 20 ≤ k) → σ1 k = σ k := fun k q1 q2 q3 => (cp2 k (by omega) (by omega)).trans (off k q1)
    have e7 : σ1 7 = (zup (zup σ 7 1 (m : Int)) 7 2 ((c - 1 : Nat) : Int)) 7 := cp2 7 (by omega) (by omega)
    refine ⟨⟨?_, ⟨m, by omega, ?_, fun i hi => ?_⟩, ?_, ?_, fun i hi => ?_⟩, keep 9 (by decide) (by decide) (by decide), fun k hk => keep k (by omega) (by omega) (by omega)⟩
    · rw [← hm] at a1
      have a2 : ShC (shF (zup (zup σ 7 1 (m : Int)) 7 2 ((c - 1 : Nat) : Int)) (1 + m)) (shA (zup (zup σ 7 1 (m : Int)) 7 2 ((c - 1 : Nat) : Int)) (1 + m)) (H (c - 1)) := a1.seq gH.1 (SEq.same (fun k hk => off k (by omega)))
      exact (a2.seq gH.1 cp1).req undS_req gH.1
    · rw [e7, zup_of (by omega), zup_at]
    · have a3 := h3 i (by omega)
      rw [show (n + 4 - c + i) % 4 = (m + 4 - (c - 1) + i) % 4 by omega] at a3
      exact a3.seq (g3 i (by omega)).1 (SEq.same (fun k hk => keep k (by omega) (by omega) (by omega)))
    · rw [e7, zup_at]
    · rw [keep 8 (by decide) (by decide) (by decide)]; exact h5
    · rw [keep 64 (by decide) (by decide) (by decide)]; exact h6 i hi
  have hm1 : max (zw ((c : Int) - 1)) 0 = ((c - 1 : Nat) : Int) := by
    rw [zw_id (by omega) (by omega)]; omega
  rw [X118_0_7_2, h2]
  have st : ∀ m : Nat, zup σ 7 1 (m : Int) 7 2 = (c : Int) := fun m => by rw [zup_of (by omega)]; exact h4
  have st2 : ∀ (m : Nat), (zup (zup σ 7 1 (m : Int)) 7 2 (max (zw (zup σ 7 1 (m : Int) 7 2 - 1)) 0)) 7 1 = (m : Int) := fun m => by rw [zup_of (by omega), zup_at]
  have go : ∀ m : Nat, m = (n + 3) % 4 → ∃ σ', zE 118 18 [some (zR 7), some (zR 2)] [zI (m : Int), zR 7] σ = zRV σ' ∧ RC σ' (undS S (H (c - 1))) (c - 1) H t T ∧ σ' 9 = σ 9 ∧ ∀ k, 65 ≤ k → σ' k = σ k := by
    intro m hm
    rw [← hm] at hpl
    rw [X118_18_7_2, st2 m, st m, hm1]
    have hp2 : ∀ a, a ≠ 7 → (zup (zup σ 7 1 (m : Int)) 7 2 ((c - 1 : Nat) : Int)) a 11 = σ a 11 := fun a ha => by rw [zup_off ha, zup_off ha]
    match m, hm, hpl with
    | 0, hm, hpl =>
      obtain ⟨σ1, e1, e2⟩ := s145_2_3 (σ := zup (zup σ 7 1 ((0 : Nat) : Int)) 7 2 ((c - 1 : Nat) : Int)) (by rw [hp2 3 (by decide)]; exact hpl)
      rw [if_pos (by decide), e1]; exact ⟨σ1, rfl, fin 0 σ1 hm e2⟩
    | 1, hm, hpl =>
      obtain ⟨σ1, e1, e2⟩ := s145_2_4 (σ := zup (zup σ 7 1 ((1 : Nat) : Int)) 7 2 ((c - 1 : Nat) : Int)) (by rw [hp2 4 (by decide)]; exact hpl)
      rw [if_neg (by decide), if_pos (by decide), e1]; exact ⟨σ1, rfl, fin 1 σ1 hm e2⟩
    | 2, hm, hpl =>
      obtain ⟨σ1, e1, e2⟩ := s145_2_5 (σ := zup (zup σ 7 1 ((2 : Nat) : Int)) 7 2 ((c - 1 : Nat) : Int)) (by rw [hp2 5 (by decide)]; exact hpl)
      rw [if_neg (by decide), if_neg (by decide), if_pos (by decide), e1]; exact ⟨σ1, rfl, fin 2 σ1 hm e2⟩
    | 3, hm, hpl =>
      obtain ⟨σ1, e1, e2⟩ := s145_2_6 (σ := zup (zup σ 7 1 ((3 : Nat) : Int)) 7 2 ((c - 1 : Nat) : Int)) (by rw [hp2 6 (by decide)]; exact hpl)
      rw [if_neg (by decide), if_neg (by decide), if_neg (by decide), if_pos (by decide), e1]; exact ⟨σ1, rfl, fin 3 σ1 hm e2⟩
    | m + 4, hm, _ => omega
  by_cases q : (n : Int) ≤ 0
  · rw [if_pos q]; exact go 3 (by omega)
  · rw [if_neg q, zw_id (by omega) (by omega), show (n : Int) - 1 = ((n - 1 : Nat) : Int) by omega]; exact go (n - 1) (by omega)
