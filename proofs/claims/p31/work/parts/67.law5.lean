/-! ===== 67: the law's jobs and operations (written by a program) ===== -/
theorem t171 (σ : zSt) (x : Int) {n : Int} (hn : 0 < n) : ∃ r : Int, 0 ≤ r ∧ r < n ∧ zE 171 0 [some (zI x), some (zI n)] [] σ = zRI r σ := by
  refine ⟨zan x 2147483647 % n, Int.emod_nonneg _ (by omega), Int.emod_lt_of_pos _ hn, ?_⟩
  rw [X171_0, zgd_pos ⟨zan_low x, hn⟩]
theorem FC.fl {σ σ' : zSt} (e : FC σ σ') {k : Nat} (hk : 65 ≤ k) : σ' k = σ k := e.2 k hk
theorem jobS_off {S : Row} {n : Nat} (h : S 1 = n) {w d : Int} {k : Nat} (a1 : k ≠ 5 + 3 * n) (a2 : k ≠ 6 + 3 * n) (a3 : k ≠ 7 + 3 * n) (a4 : k ≠ 1) (a5 : k ≠ 3) : jobS S w d k = S k := by
  have hn2 : (S 1).toNat = n := by omega
  unfold jobS
  rw [hn2, rset_of a5, rset_of a4, rset_of a3, rset_of a2, rset_of a1]
theorem jobS_at {S : Row} {n : Nat} (h : S 1 = n) (w d : Int) : jobS S w d 1 = S 1 + 1 ∧ jobS S w d 3 = 0 ∧ rW (jobS S w d) n = w ∧ rD (jobS S w d) n = d ∧ rO (jobS S w d) n = 0 := by
  have hn2 : (S 1).toNat = n := by omega
  refine ⟨?_, rset_eq rfl, ?_, ?_, ?_⟩
  · unfold jobS
    rw [rset_of (by omega), rset_eq rfl]
  · unfold rW jobS
    rw [hn2, rset_of (by omega), rset_of (by omega), rset_of (by omega), rset_of (by omega), rset_eq rfl]
  · unfold rD jobS
    rw [hn2, rset_of (by omega), rset_of (by omega), rset_of (by omega), rset_eq rfl]
  · unfold rO jobS
    rw [hn2, rset_of (by omega), rset_of (by omega), rset_eq rfl]
theorem opS_off {S : Row} {j n : Nat} (h : rO S j = n) {m u : Int} {k : Nat} (a1 : k ≠ 23 + 4 * (5 * j + n)) (a2 : k ≠ 24 + 4 * (5 * j + n)) (a3 : k ≠ 7 + 3 * j) (a4 : k ≠ 3) : opS S j m u k = S k := by
  have hn2 : nO S j = n := by unfold nO; omega
  unfold opS
  rw [hn2, rset_of a4, rset_of a3, rset_of a2, rset_of a1]
theorem opS_at {S : Row} {j n : Nat} (h : rO S j = n) (hj : j < 6) (hn : n < 5) (m u : Int) : opS S j m u 3 = 0 ∧ sM (opS S j m u) (5 * j + n) = m ∧ sU (opS S j m u) (5 * j + n) = u ∧ rO (opS S j m u) j = rO S j + 1 := by
  have hn2 : nO S j = n := by unfold nO; omega
  refine ⟨rset_eq rfl, ?_, ?_, ?_⟩
  · unfold sM opS
    rw [hn2, rset_of (by omega), rset_of (by omega), rset_of (by omega), rset_eq rfl]
  · unfold sU opS
    rw [hn2, rset_of (by omega), rset_of (by omega), rset_eq rfl]
  · show opS S j m u (7 + 3 * j) = _
    unfold opS
    rw [rset_of (by omega), rset_eq rfl]
/-- while the jobs are made: n of them stand -/
def J1 (σ : zSt) (S : Row) (n : Nat) : Prop := CR σ S 1150 ∧ (S 0 = 3 ∧ S 1 = n ∧ S 2 = 0 ∧ S 3 = 0 ∧ S 4 = 0) ∧ (σ 9 0 = 0 ∧ σ 9 1 = 0 ∧ σ 9 2 = 0) ∧ (∀ j : Nat, j < n → σ 65 (3 * j) = rW S j ∧ σ 65 (3 * j + 1) = rD S j ∧ σ 65 (3 * j + 2) = rO S j ∧ rO S j ≤ 4 ∧ rD S j ≤ 60) ∧ (∀ j : Nat, n ≤ j → j < 3 → σ 65 (3 * j + 2) = 0) ∧ (∀ j o, Live S j o → σ 66 (16 * j + 4 * o) = sM S (5 * j + o) ∧ σ 66 (16 * j + 4 * o + 1) = sU S (5 * j + o) ∧ 0 ≤ sM S (5 * j + o) ∧ sM S (5 * j + o) < 3) ∧ (∀ i : Nat, i < 30 → S (25 + 4 * i) = 0 ∧ S (26 + 4 * i) = 0) ∧ ∀ x : Nat, 2 ≤ x % 4 → σ 66 x = 0
section LAWG
variable {σ : zSt} {S : Row} {B : Int}
/-- a job is made -/
theorem q187_50 {n : Nat} (h : J1 σ S n) (hn : n < 3) (s0 : Int) (o8 o9 o10 o11 o12 : Option zVal) : ∃ r4 σ' S', 0 ≤ r4 ∧ r4 ≤ 4 ∧ zE 187 50 [some (zR 90), some (zR 0), some (zR 9), some (zR 65), some (zR 66), some (zR 67), some (zR 68), some (zI (n : Int)), o8, o9, o10, o11, o12, none, none] [zI s0] σ = zE 187 123 [some (zR 90), some (zR 0), some (zR 9), some (zR 65), some (zR 66), some (zR 67), some (zR 68), some (zI (n : Int)), some (zI s0), some (zI r4), some (zI 0), o11, o12, none, none] [] σ' ∧ J1 σ' S' (n + 1) ∧ rO S' n = 0 := by
  obtain ⟨hC, ⟨a0, a1, a2, a3, a4⟩, ⟨b0, b1, b2⟩, hj, hz, hop, hpl, h66⟩ := h
  obtain ⟨r1, c1, c2, e1⟩ := t171 σ s0 (n := 9) (by omega)
  have w0 : zw (3 * (n : Int)) = 3 * (n : Int) := zw_id (by omega) (by omega)
  have w1 : zw (3 * (n : Int) + 1) = 3 * (n : Int) + 1 := zw_id (by omega) (by omega)
  have n0 : (3 * (n : Int)).toNat = 3 * n := by omega
  have n1 : (3 * (n : Int) + 1).toNat = 3 * n + 1 := by omega
  have wr : zw (1 + r1) = 1 + r1 := zw_id (by omega) (by omega)
  obtain ⟨r2, c3, c4, e2⟩ := t171 (zup σ 65 (3 * n) (1 + r1)) (zsh s0 4) (n := 60) (by omega)
  have v0 : (zup (zup σ 65 (3 * n) (1 + r1)) 65 (3 * n + 1) r2) 65 (3 * n) = 1 + r1 := by rw [zup_of (by omega), zup_at]
  have v1 : (zup (zup σ 65 (3 * n) (1 + r1)) 65 (3 * n + 1) r2) 65 (3 * n + 1) = r2 := zup_at _ _ _ _
  have v2 : ∀ i, i ≠ 3 * n → i ≠ 3 * n + 1 → (zup (zup σ 65 (3 * n) (1 + r1)) 65 (3 * n + 1) r2) 65 i = σ 65 i := fun i i1 i2 => by rw [zup_of (by omega), zup_of (by omega)]
  have v3 : ∀ k, k ≠ 65 → (zup (zup σ 65 (3 * n) (1 + r1)) 65 (3 * n + 1) r2) k = σ k := fun k hk => by rw [zup_off hk, zup_off hk]
  have hC1 : CR (zup (zup σ 65 (3 * n) (1 + r1)) 65 (3 * n + 1) r2) S 1150 := hC.fl (fun k k1 k2 => v3 k (by omega))
  rw [X187_50, e1, zbI_some, w0, n0, zgd_pos (by omega), wr, e2, zbI_some, w1, n1, zgd_pos (by omega), zgd_pos (by omega), zgd_pos (by omega), v0, v1]
  generalize zup (zup σ 65 (3 * n) (1 + r1)) 65 (3 * n + 1) r2 = τ at v0 v1 v2 v3 hC1 ⊢
  obtain ⟨σ', f1, f2, f3⟩ := g_addJob hC1 (w := 1 + r1) (d := r2) (by omega) (by omega) (by omega)
  obtain ⟨r4, c5, c6, e4⟩ := t171 σ' (zsh s0 10) (n := 5) (by omega)
  rw [f1, zbI_some, if_pos a1, e4, zbI_some]
  obtain ⟨d1, d2, d3, d4, d5⟩ := jobS_at a1 (1 + r1) r2
  have off : ∀ k, k ≠ 5 + 3 * n → k ≠ 6 + 3 * n → k ≠ 7 + 3 * n → k ≠ 1 → k ≠ 3 → jobS S (1 + r1) r2 k = S k := fun k x1 x2 x3 x4 x5 => jobS_off a1 x1 x2 x3 x4 x5
  have s9 : σ' 9 = σ 9 := by rw [f3.1, v3 9 (by decide)]
  have s65 : σ' 65 = τ 65 := f3.2 65 (by omega)
  have s66 : σ' 66 = σ 66 := by rw [f3.2 66 (by omega), v3 66 (by decide)]
  refine ⟨r4, σ', jobS S (1 + r1) r2, c5, by omega, rfl, ⟨f2, ⟨?_, by rw [d1]; omega, ?_, d2, ?_⟩, by rw [s9]; exact ⟨b0, b1, b2⟩, fun j hjn => ?_, fun j j1 j2 => ?_, fun j o hl => ?_, fun i hi => ?_, fun x hx => by rw [s66]; exact h66 x hx⟩, d5⟩
  · rw [off 0 (by omega) (by omega) (by omega) (by omega) (by omega)]; exact a0
  · rw [off 2 (by omega) (by omega) (by omega) (by omega) (by omega)]; exact a2
  · rw [off 4 (by omega) (by omega) (by omega) (by omega) (by omega)]; exact a4
  · rw [s65]
    by_cases c : j = n
    · rw [c, d3, d4, d5, v0, v1, v2 _ (by omega) (by omega), hz n (by omega) hn]
      omega
    · unfold rW rD rO
      rw [off _ (by omega) (by omega) (by omega) (by omega) (by omega), off _ (by omega) (by omega) (by omega) (by omega) (by omega), off _ (by omega) (by omega) (by omega) (by omega) (by omega), v2 _ (by omega) (by omega), v2 _ (by omega) (by omega), v2 _ (by omega) (by omega)]
      exact hj j (by omega)
  · rw [s65, v2 _ (by omega) (by omega)]; exact hz j (by omega) j2
  · have hl1 := hl.1
    have hl2 := hl.2
    rw [d1] at hl1
    by_cases c : j = n
    · rw [c, d5] at hl2; omega
    · have ho : rO (jobS S (1 + r1) r2) j = rO S j := off _ (by omega) (by omega) (by omega) (by omega) (by omega)
      rw [ho] at hl2
      have hl' : Live S j o := ⟨by omega, hl2⟩
      unfold sM sU
      rw [s66, off _ (by omega) (by omega) (by omega) (by omega) (by omega), off _ (by omega) (by omega) (by omega) (by omega) (by omega)]
      exact hop j o hl'
  · rw [off _ (by omega) (by omega) (by omega) (by omega) (by omega), off _ (by omega) (by omega) (by omega) (by omega) (by omega)]
    exact hpl i hi
/-- an operation is made -/
theorem q187_143 {n k : Nat} (h : J1 σ S (n + 1)) (hn : n < 3) (hk : k < 4) (hr : rO S n = k) (l8 l9 s0 : Int) (o11 o12 : Option zVal) : ∃ (x11 x12 : Int) (σ' : zSt) (S' : Row), zE 187 143 [some (zR 90), some (zR 0), some (zR 9), some (zR 65), some (zR 66), some (zR 67), some (zR 68), some (zI (n : Int)), some (zI l8), some (zI l9), some (zI (k : Int)), o11, o12, none, none] [zI s0] σ = zE 187 123 [some (zR 90), some (zR 0), some (zR 9), some (zR 65), some (zR 66), some (zR 67), some (zR 68), some (zI (n : Int)), some (zI l8), some (zI l9), some (zI ((k + 1 : Nat) : Int)), some (zI x11), some (zI x12), none, none] [] σ' ∧ J1 σ' S' (n + 1) ∧ rO S' n = ((k + 1 : Nat) : Int) := by
  obtain ⟨hC, ⟨a0, a1, a2, a3, a4⟩, ⟨b0, b1, b2⟩, hj, hz, hop, hpl, h66⟩ := h
  obtain ⟨r1, c1, c2, e1⟩ := t171 σ s0 (n := 3) (by omega)
  have w0 : zw (4 * (n : Int)) = 4 * (n : Int) := zw_id (by omega) (by omega)
  have w1 : zw (4 * (n : Int) + k) = 4 * (n : Int) + k := zw_id (by omega) (by omega)
  have w2 : zw (4 * (4 * (n : Int) + k)) = 4 * (4 * (n : Int) + k) := zw_id (by omega) (by omega)
  have w3 : zw (4 * (4 * (n : Int) + k) + 1) = 4 * (4 * (n : Int) + k) + 1 := zw_id (by omega) (by omega)
  have w4 : zw (3 * (n : Int)) = 3 * (n : Int) := zw_id (by omega) (by omega)
  have w5 : zw (3 * (n : Int) + 2) = 3 * (n : Int) + 2 := zw_id (by omega) (by omega)
  have n2 : (4 * (4 * (n : Int) + k)).toNat = 16 * n + 4 * k := by omega
  have n3 : (4 * (4 * (n : Int) + k) + 1).toNat = 16 * n + 4 * k + 1 := by omega
  have n5 : (3 * (n : Int) + 2).toNat = 3 * n + 2 := by omega
  obtain ⟨r2, c3, c4, e2⟩ := t171 (zup σ 66 (16 * n + 4 * k) r1) (zsh s0 2) (n := 12) (by omega)
  have wr : zw (1 + r2) = 1 + r2 := zw_id (by omega) (by omega)
  have u0 : (zup (zup σ 66 (16 * n + 4 * k) r1) 66 (16 * n + 4 * k + 1) (1 + r2)) 65 (3 * n + 2) = (k : Int) := by rw [zup_of (by omega), zup_of (by omega), (hj n (by omega)).2.2.1, hr]
  have wk : zw ((k : Int) + 1) = ((k + 1 : Nat) : Int) := zw_nat1 (by omega)
  have v0 : (zup (zup (zup σ 66 (16 * n + 4 * k) r1) 66 (16 * n + 4 * k + 1) (1 + r2)) 65 (3 * n + 2) ((k + 1 : Nat) : Int)) 66 (16 * n + 4 * k) = r1 := by rw [zup_of (by omega), zup_of (by omega), zup_at]
  have v1 : (zup (zup (zup σ 66 (16 * n + 4 * k) r1) 66 (16 * n + 4 * k + 1) (1 + r2)) 65 (3 * n + 2) ((k + 1 : Nat) : Int)) 66 (16 * n + 4 * k + 1) = 1 + r2 := by rw [zup_of (by omega), zup_at]
  have v2 : (zup (zup (zup σ 66 (16 * n + 4 * k) r1) 66 (16 * n + 4 * k + 1) (1 + r2)) 65 (3 * n + 2) ((k + 1 : Nat) : Int)) 65 (3 * n + 2) = ((k + 1 : Nat) : Int) := zup_at _ _ _ _
  have v3 : ∀ i, i ≠ 16 * n + 4 * k → i ≠ 16 * n + 4 * k + 1 → (zup (zup (zup σ 66 (16 * n + 4 * k) r1) 66 (16 * n + 4 * k + 1) (1 + r2)) 65 (3 * n + 2) ((k + 1 : Nat) : Int)) 66 i = σ 66 i := fun i i1 i2 => by rw [zup_of (by omega), zup_of (by omega), zup_of (by omega)]
  have v4 : ∀ i, i ≠ 3 * n + 2 → (zup (zup (zup σ 66 (16 * n + 4 * k) r1) 66 (16 * n + 4 * k + 1) (1 + r2)) 65 (3 * n + 2) ((k + 1 : Nat) : Int)) 65 i = σ 65 i := fun i i1 => by rw [zup_of (by omega), zup_of (by omega), zup_of (by omega)]
  have v5 : ∀ q, q ≠ 65 → q ≠ 66 → (zup (zup (zup σ 66 (16 * n + 4 * k) r1) 66 (16 * n + 4 * k + 1) (1 + r2)) 65 (3 * n + 2) ((k + 1 : Nat) : Int)) q = σ q := fun q q1 q2 => by rw [zup_off q1, zup_off q2, zup_off q2]
  have hC1 : CR (zup (zup (zup σ 66 (16 * n + 4 * k) r1) 66 (16 * n + 4 * k + 1) (1 + r2)) 65 (3 * n + 2) ((k + 1 : Nat) : Int)) S 1150 := hC.fl (fun q q1 q2 => v5 q (by omega) (by omega))
  rw [X187_143, e1, zbI_some, w0, w1, w2, n2, zgd_pos (by omega), e2, zbI_some, w3, n3, zgd_pos (by omega), wr, w4, w5, n5, zgd_pos (by omega), zgd_pos (by omega), zgd_pos (by omega), zgd_pos (by omega), u0, wk, v0, v1]
  generalize zup (zup (zup σ 66 (16 * n + 4 * k) r1) 66 (16 * n + 4 * k + 1) (1 + r2)) 65 (3 * n + 2) ((k + 1 : Nat) : Int) = τ at v0 v1 v2 v3 v4 v5 hC1 ⊢
  obtain ⟨σ', f1, f2, f3⟩ := g_addOperation hC1 (n := n) (m := r1) (u := 1 + r2) (by omega) (by omega) (by omega) (by omega)
  rw [f1, zbI_some, if_pos hr]
  obtain ⟨d1, d2, d3, d4⟩ := opS_at hr (by omega) (by omega) r1 (1 + r2)
  have off : ∀ q, q ≠ 23 + 4 * (5 * n + k) → q ≠ 24 + 4 * (5 * n + k) → q ≠ 7 + 3 * n → q ≠ 3 → opS S n r1 (1 + r2) q = S q := fun q x1 x2 x3 x4 => opS_off hr x1 x2 x3 x4
  have s9 : σ' 9 = σ 9 := by rw [f3.1, v5 9 (by decide) (by decide)]
  have s65 : σ' 65 = τ 65 := f3.2 65 (by omega)
  have s66 : σ' 66 = τ 66 := f3.2 66 (by omega)
  have d4' : rO (opS S n r1 (1 + r2)) n = ((k + 1 : Nat) : Int) := by rw [d4, hr]; omega
  have oj : ∀ j : Nat, j < 3 → j ≠ n → rO (opS S n r1 (1 + r2)) j = rO S j := fun j j1 j2 => off _ (by omega) (by omega) (by omega) (by omega)
  refine ⟨_, _, σ', opS S n r1 (1 + r2), rfl, ⟨f2, ⟨?_, ?_, ?_, d1, ?_⟩, by rw [s9]; exact ⟨b0, b1, b2⟩, fun j hjn => ?_, fun j j1 j2 => ?_, fun j o hl => ?_, fun i hi => ?_, fun x hx => ?_⟩, d4'⟩
  · rw [off 0 (by omega) (by omega) (by omega) (by omega)]; exact a0
  · rw [off 1 (by omega) (by omega) (by omega) (by omega)]; exact a1
  · rw [off 2 (by omega) (by omega) (by omega) (by omega)]; exact a2
  · rw [off 4 (by omega) (by omega) (by omega) (by omega)]; exact a4
  · have g := hj j hjn
    have ew : rW (opS S n r1 (1 + r2)) j = rW S j := off _ (by omega) (by omega) (by omega) (by omega)
    have ed : rD (opS S n r1 (1 + r2)) j = rD S j := off _ (by omega) (by omega) (by omega) (by omega)
    rw [s65, ew, ed, v4 (3 * j) (by omega), v4 (3 * j + 1) (by omega)]
    by_cases c : j = n
    · rw [c] at g ⊢
      rw [d4', v2]
      exact ⟨g.1, g.2.1, rfl, by omega, g.2.2.2.2⟩
    · rw [oj j (by omega) c, v4 _ (by omega)]
      exact g
  · rw [s65, v4 _ (by omega)]; exact hz j j1 j2
  · have hl1 := hl.1
    have hl2 := hl.2
    rw [off 1 (by omega) (by omega) (by omega) (by omega), a1] at hl1
    rw [s66]
    by_cases c : j = n ∧ o = k
    · rw [c.1, c.2, d2, d3, v0, v1]
      exact ⟨rfl, rfl, by omega, by omega⟩
    · have hlo : (o : Int) < rO S j := by
        by_cases c2 : j = n
        · rw [c2] at hl2 ⊢
          rw [d4'] at hl2; omega
        · rw [oj j (by omega) c2] at hl2; exact hl2
      have ho4 := (hj j (by omega)).2.2.2.1
      have em : sM (opS S n r1 (1 + r2)) (5 * j + o) = sM S (5 * j + o) := off _ (by omega) (by omega) (by omega) (by omega)
      have eu : sU (opS S n r1 (1 + r2)) (5 * j + o) = sU S (5 * j + o) := off _ (by omega) (by omega) (by omega) (by omega)
      rw [em, eu, v3 _ (by omega) (by omega), v3 _ (by omega) (by omega)]
      exact hop j o ⟨by omega, hlo⟩
  · rw [off _ (by omega) (by omega) (by omega) (by omega), off _ (by omega) (by omega) (by omega) (by omega)]
    exact hpl i hi
  · rw [s66, v3 _ (by omega) (by omega)]; exact h66 x hx
/-- all is well -/
def J2 (σ : zSt) (S : Row) (B : Int) (t : Nat) : Prop := CR σ S B ∧ LW σ S ∧ Mch S ∧ ∀ j : Nat, j < 3 → rD S j ≤ 60 + 9 * t
theorem J2.up {B' : Int} {t t' : Nat} (h : J2 σ S B t) (hB : B ≤ B') (ht : t ≤ t') : J2 σ S B' t' := ⟨h.1.up hB, h.2.1, h.2.2.1, fun j hj => by have := h.2.2.2 j hj; omega⟩
theorem J1.j2 (h : J1 σ S 3) : J2 σ S 1150 0 := by
  obtain ⟨hC, ⟨a0, a1, a2, a3, a4⟩, ⟨b0, b1, b2⟩, hj, hz, hop, hpl, h66⟩ := h
  have h3 : L3 S := ⟨⟨a0, a1⟩, by omega, fun j hj3 => (hj j hj3).2.2.2.1⟩
  refine ⟨hC, ⟨h3, ⟨b0.trans a2.symm, fun j hj3 => ⟨(hj j hj3).1, (hj j hj3).2.1, (hj j hj3).2.2.1⟩, fun j o hl => ⟨(hop j o hl).1, (hop j o hl).2.1⟩, fun b hb => by omega⟩, fun j o hl => ?_, fun j o hl => ?_, b1.trans a3.symm, b2.trans a4.symm⟩, fun j o hl => by rw [a0]; exact (hop j o hl).2.2, fun j hj3 => by have := (hj j hj3).2.2.2.2; omega⟩
  · obtain ⟨x1, x2⟩ := h3.j3 hl
    rw [h66 _ (by omega)]
    exact ((hpl (5 * j + o) (by omega)).2).symm
  · obtain ⟨x1, x2⟩ := h3.j3 hl
    rw [h66 _ (by omega)]
    exact ((hpl (5 * j + o) (by omega)).1).symm
end LAWG
