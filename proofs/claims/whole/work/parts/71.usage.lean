/-! ===== 71: usage, its numbers ===== -/
theorem znan_dec {b : UInt64} (h : isNaN64 b = true) : FP.Core.decode FP.Core.b64 b.toNat = .nan := by
  have h1 : 0x7ff0000000000000 < b.toNat &&& 0x7fffffffffffffff := isNaN64_iff.mp h
  have h2 : b.toNat &&& 0x7fffffffffffffff = b.toNat % 2 ^ 63 := Nat.and_two_pow_sub_one_eq_mod b.toNat 63
  rw [h2] at h1
  have e1 : FP.Core.fieldE FP.Core.b64 b.toNat = FP.Core.b64.exps - 1 := by
    show b.toNat / 2 ^ 52 % 2 ^ 11 = 2 ^ 11 - 1
    omega
  have e2 : ¬ FP.Core.fieldT FP.Core.b64 b.toNat = 0 := by
    show ¬ b.toNat % 2 ^ 52 = 0
    omega
  unfold FP.Core.decode
  rw [if_pos e1, if_neg e2]
theorem znan_cmp {p q : UInt64} (h : isNaN64 p = true) : Op.cmpValue (FP.dcmp p q) CmpOp.l = -1 := by
  show Op.cmpValue (FP.Core.order (FP.Core.decode FP.Core.b64 p.toNat) (FP.Core.decode FP.Core.b64 q.toNat)) CmpOp.l = -1
  rw [znan_dec h]
  rfl
def aw (S : Row) : Int := f1 (fun j a => zw (a + wkS S j)) (nJ S) 0
theorem s158 {σ : zSt} {S : Row} (hC : CS σ S) (hG : Good S) : zE 158 0 [some (zR 2), none, none] [] σ = zRI (aw S) σ := by
  have key := zloop1 (α := Int) (D := Unit) (nJ S) (fun j a => zw (a + wkS S j)) (fun j a _ => zE 158 4 [some (zR 2), some (zI a), some (zI (j : Int))] [] σ) (fun a => zRI a σ) (fun _ _ => True) ?_ ?_ 0 () trivial
  · rw [X158_0]
    exact key.1
  · intro j a _ hj _
    have hjl := nJ_lt.mp hj
    have hj6 := hG.j6 hjl
    refine ⟨⟨(), ?_⟩, trivial⟩
    show zE 158 4 [some (zR 2), some (zI a), some (zI (j : Int))] [] σ = _
    rw [X158_4, if_pos (by rw [hC.1.2.1]; exact hjl), s157 hC hG hjl, zbI_some, zw_nat1 (by omega)]
  · intro a _ _
    show zE 158 4 [some (zR 2), some (zI a), some (zI ((nJ S : Nat) : Int))] [] σ = _
    rw [X158_4, if_neg (by rw [hC.1.2.1]; have := hG.1.2.1; unfold nJ; omega)]
theorem opn_ok {S : Row} (hG : Good S) : ∀ n, n ≤ nJ S → 0 ≤ f1 (fun j a => zw (a + rO S j)) n 0 ∧ f1 (fun j a => zw (a + rO S j)) n 0 ≤ 5 * n ∧ (f1 (fun j a => zw (a + rO S j)) n 0 = 0 ↔ ∀ j, j < n → rO S j = 0) := by
  intro n
  induction n with
  | zero => intro _; exact ⟨Int.le_refl _, by show (0 : Int) ≤ _; omega, ⟨fun _ j hj => by omega, fun _ => rfl⟩⟩
  | succ n ih =>
    intro hn
    obtain ⟨i1, i2, i3⟩ := ih (by omega)
    have hj : (n : Int) < S 1 := nJ_lt.mp (by omega)
    have hj6 := hG.j6 hj
    have g := (hG.2.1 n hj).2.2
    show 0 ≤ zw (f1 (fun j a => zw (a + rO S j)) n 0 + rO S n) ∧ zw (f1 (fun j a => zw (a + rO S j)) n 0 + rO S n) ≤ 5 * ((n + 1 : Nat) : Int) ∧ (zw (f1 (fun j a => zw (a + rO S j)) n 0 + rO S n) = 0 ↔ _)
    rw [zw_id (by omega) (by omega)]
    refine ⟨by omega, by omega, ⟨fun q j hjn => ?_, fun q => ?_⟩⟩
    · by_cases e : j = n
      · subst e; omega
      · exact i3.mp (by omega) j (by omega)
    · have := i3.mpr (fun j hjn => q j (by omega))
      have := q n (by omega)
      omega
/-- the greatest end: 0 just where there is no operation -/
theorem gend {S : Row} {B m : Int} (hG : Good S) (hV : Val S 3 B) (hm : Mx 0 (Pend S (nJ S)) m) : 0 ≤ m ∧ (m ≤ 0 ∨ m ≤ B + 20) ∧ (opn S = 0 ↔ m = 0) := by
  obtain ⟨o1, o2, o3⟩ := opn_ok hG (nJ S) (Nat.le_refl _)
  refine ⟨hm.1, ?_, ?_⟩
  · rcases hm.2.2 with q | ⟨j, o, hj, ho, q⟩
    · exact Or.inl (by omega)
    · have hl := liveN hj ho
      have a1 := hV.1 j o hl
      have a2 := (hG.2.2.1 j o hl.1 hl.2).2
      have e : S (23 + 3 + 4 * (5 * j + o)) = sP S (5 * j + o) := rfl
      rw [e] at a1
      exact Or.inr (by omega)
  · constructor
    · intro q
      rcases hm.2.2 with q2 | ⟨j, o, hj, ho, q2⟩
      · exact q2
      · have hl := liveN hj ho
        have := o3.mp q j hj
        have := hl.2
        omega
    · intro q
      refine o3.mpr (fun j hj => ?_)
      have hjl := nJ_lt.mp hj
      have g := (hG.2.1 j hjl).2.2
      by_cases z : rO S j = 0
      · exact z
      · have hl : Live S j 0 := ⟨hjl, by omega⟩
        have a1 := hV.1 j 0 hl
        have a2 := (hG.2.2.1 j 0 hl.1 hl.2).2
        have e : S (23 + 3 + 4 * (5 * j + 0)) = sP S (5 * j + 0) := rfl
        rw [e] at a1
        have := hm.2.1 (sP S (5 * j + 0) + sU S (5 * j + 0)) ⟨j, 0, hj, nO_lt.mpr hl.2, rfl⟩
        omega
def usN (S : Row) (m : Int) : UInt64 := FP.ddiv (FP.i2d (Int32.ofInt (aw S))) (FP.i2d (Int32.ofInt (S 0 * m)))
/-- what usage may answer -/
def usP (S : Row) (r : UInt64) : Prop := (S 3 = 1 ∧ opn S ≠ 0 → ∃ m, Mx 0 (Pend S (nJ S)) m ∧ alike64 r (usN S m) = true) ∧ (¬ (S 3 = 1 ∧ opn S ≠ 0) → r = FP.dconst0)
theorem alike_or {p q n : UInt64} (hp : alike64 p n = true) (hq : alike64 q n = true) : p = q ∨ (isNaN64 p = true ∧ isNaN64 q = true) := by
  unfold alike64 at hp hq
  simp only [Bool.or_eq_true, decide_eq_true_eq, Bool.and_eq_true] at hp hq
  rcases hp with hp | hp
  · rcases hq with hq | hq
    · exact Or.inl (hp.trans hq.symm)
    · exact Or.inr ⟨by rw [hp]; exact hq.2, hq.1⟩
  · rcases hq with hq | hq
    · exact Or.inr ⟨hp.1, by rw [hq]; exact hp.2⟩
    · exact Or.inr ⟨hp.1, hq.1⟩
theorem usP_eq {S : Row} {p q : UInt64} (hp : usP S p) (hq : usP S q) : p = q ∨ (isNaN64 p = true ∧ isNaN64 q = true) := by
  by_cases c : S 3 = 1 ∧ opn S ≠ 0
  · obtain ⟨m, h1, h2⟩ := hp.1 c
    obtain ⟨m', h3, h4⟩ := hq.1 c
    rw [h3.uniq h1] at h4
    exact alike_or h2 h4
  · exact Or.inl ((hp.2 c).trans (hq.2 c).symm)
