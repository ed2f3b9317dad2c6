/-! ===== 64f: a quotient of two whole numbers is a number ===== -/
theorem zasm (s : Bool) {e t : Nat} (he : e < 2048) (ht : t < 4503599627370496) : FP.Core.assemble FP.Core.b64 s e t % 9223372036854775808 = e * 4503599627370496 + t ∧ FP.Core.assemble FP.Core.b64 s e t < 18446744073709551616 := by
  have h : FP.Core.assemble FP.Core.b64 s e t = (s.toNat * 2048 + e) * 4503599627370496 + t := rfl
  have hs : s.toNat ≤ 1 := by cases s <;> decide
  rw [h]
  omega
/-- what rounds: an infinity, or a number that fits -/
theorem zrnd (s : Bool) (num den : Nat) (e : Int) : FP.Core.encode FP.Core.b64 (FP.Core.roundRatio FP.Core.b64 s num den e) % 9223372036854775808 ≤ 9218868437227405312 := by
  have hq : FP.Core.Fmt.qmax FP.Core.b64 = 971 := rfl
  have hm : FP.Core.Fmt.qmin FP.Core.b64 = -1074 := rfl
  have ht : FP.Core.Fmt.tails FP.Core.b64 = 4503599627370496 := rfl
  have hx : FP.Core.Fmt.exps FP.Core.b64 = 2048 := rfl
  have hp : (2 : Nat) ^ FP.Core.b64.p = 9007199254740992 := rfl
  have fin : ∀ (c : Nat) (q : Int), c < 9007199254740992 → q ≤ 971 → FP.Core.encode FP.Core.b64 (.fin s c q) % 9223372036854775808 ≤ 9218868437227405312 := by
    intro c q hc hq9
    show (if c < FP.Core.Fmt.tails FP.Core.b64 then FP.Core.assemble FP.Core.b64 s 0 c else FP.Core.assemble FP.Core.b64 s ((q - FP.Core.Fmt.qmin FP.Core.b64).toNat + 1) (c - FP.Core.Fmt.tails FP.Core.b64)) % 9223372036854775808 ≤ _
    rw [ht, hm]
    by_cases h : c < 4503599627370496
    · rw [if_pos h, (zasm s (by omega) h).1]; omega
    · rw [if_neg h, (zasm s (e := (q - -1074).toNat + 1) (t := c - 4503599627370496) (by omega) (by omega)).1]; omega
  have bd : ∀ (c : Nat) (q : Int), c < 9007199254740992 → FP.Core.encode FP.Core.b64 (FP.Core.bound FP.Core.b64 s c q) % 9223372036854775808 ≤ 9218868437227405312 := by
    intro c q hc
    unfold FP.Core.bound
    rw [hq]
    by_cases h : q ≤ 971
    · rw [if_pos h]; exact fin c q hc h
    · rw [if_neg h]
      show FP.Core.assemble FP.Core.b64 s (FP.Core.Fmt.exps FP.Core.b64 - 1) 0 % 9223372036854775808 ≤ _
      rw [hx, (zasm s (e := 2048 - 1) (t := 0) (by omega) (by omega)).1]
      omega
  unfold FP.Core.roundRatio
  by_cases h0 : num = 0
  · rw [if_pos h0]
    exact fin 0 _ (by omega) (by rw [hm]; omega)
  · rw [if_neg h0]
    unfold FP.Core.roundAt FP.Core.settle
    rw [hp]
    by_cases h1 : FP.Core.nearest (FP.Core.unitsNum num e (FP.Core.quantum FP.Core.b64 num den e)) (FP.Core.unitsDen den e (FP.Core.quantum FP.Core.b64 num den e)) < 9007199254740992
    · rw [if_pos h1]; exact bd _ _ h1
    · rw [if_neg h1]; exact bd _ _ (by rw [ht]; omega)
theorem zn64 {n : Nat} (h : n % 9223372036854775808 ≤ 9218868437227405312) : vf_n64 (UInt64.ofNat n) := by
  unfold vf_n64
  rw [UInt64.le_iff_toNat_le, UInt64.toNat_and, UInt64.toNat_ofNat']
  have e1 : (0x7fffffffffffffff : UInt64).toNat = 2 ^ 63 - 1 := rfl
  have e2 : (0x7ff0000000000000 : UInt64).toNat = 9218868437227405312 := rfl
  rw [e1, e2, Nat.and_two_pow_sub_one_eq_mod]
  have e3 : (2 : Nat) ^ 64 = 18446744073709551616 := rfl
  have e4 : (2 : Nat) ^ 63 = 9223372036854775808 := rfl
  rw [e3, e4]
  omega
/-- a whole number as a double is finite, and not 0 if it is not -/
theorem zi2d {x : Int} (h0 : 0 ≤ x) (h1 : x < 2147483648) : ∃ s c q, FP.Core.decode FP.Core.b64 (FP.i2d (Int32.ofInt x)).toNat = .fin s c q ∧ (x ≠ 0 → c ≠ 0) := by
  have hx : (Int32.ofInt x).toInt = x := zto ⟨by omega, h1⟩
  have hq : FP.Core.Fmt.qmax FP.Core.b64 = 971 := rfl
  have hm : FP.Core.Fmt.qmin FP.Core.b64 = -1074 := rfl
  have ht : FP.Core.Fmt.tails FP.Core.b64 = 4503599627370496 := rfl
  have hp : (2 : Nat) ^ FP.Core.b64.p = 9007199254740992 := rfl
  have hpp : ((FP.Core.b64.p : Nat) : Int) = 53 := rfl
  have e0 : FP.i2d (Int32.ofInt x) = UInt64.ofNat (FP.Core.encode FP.Core.b64 (FP.Core.roundRatio FP.Core.b64 (decide (x < 0)) x.natAbs 1 0)) := by
    show UInt64.ofNat (FP.Core.encode FP.Core.b64 (FP.Core.roundRatio FP.Core.b64 (decide ((Int32.ofInt x).toInt < 0)) (Int32.ofInt x).toInt.natAbs 1 0)) = _
    rw [hx]
  rw [e0, decide_eq_false (by omega : ¬ x < 0)]
  by_cases hz : x = 0
  · subst hz
    refine ⟨false, 0, -1074, ?_, fun q => absurd rfl q⟩
    decide +kernel
  · obtain ⟨n, hn⟩ : ∃ n : Nat, x.natAbs = n := ⟨_, rfl⟩
    have hn1 : 1 ≤ n := by omega
    have hn2 : n < 2147483648 := by omega
    have l1 : 2 ^ n.log2 ≤ n := Nat.log2_self_le (by omega)
    have l2 : n < 2 ^ (n.log2 + 1) := Nat.lt_log2_self
    have l3 : n.log2 < 31 := (Nat.log2_lt (by omega)).mpr (by omega)
    rw [hn]
    obtain ⟨L, hL⟩ : ∃ L, n.log2 = L := ⟨_, rfl⟩
    rw [hL] at l1 l2 l3
    have hlead : FP.Core.leading n 1 = (L : Int) := by
      unfold FP.Core.leading
      have e1 : Nat.log2 1 = 0 := by decide
      rw [hL, e1]
      dsimp only
      rw [show ((L : Int) - ((0 : Nat) : Int)) = (L : Int) by omega, Int.toNat_natCast, show (-(L : Int)).toNat = 0 by omega, if_pos (by rw [Nat.pow_zero]; omega)]
    have hqu : FP.Core.quantum FP.Core.b64 n 1 0 = (L : Int) - 52 := by
      unfold FP.Core.quantum
      rw [hlead, hm, hpp]
      omega
    have hc : FP.Core.nearest (FP.Core.unitsNum n 0 ((L : Int) - 52)) (FP.Core.unitsDen 1 0 ((L : Int) - 52)) = n * 2 ^ (52 - L) := by
      unfold FP.Core.unitsNum FP.Core.unitsDen
      rw [show ((0 : Int) - ((L : Int) - 52)).toNat = 52 - L by omega, show ((L : Int) - 52 - 0).toNat = 0 by omega, Nat.pow_zero, Nat.mul_one]
      unfold FP.Core.nearest
      rw [Nat.mod_one, if_pos (by omega), Nat.div_one]
    have c1 : 4503599627370496 ≤ n * 2 ^ (52 - L) := by
      have : 2 ^ L * 2 ^ (52 - L) = 4503599627370496 := by
        rw [← Nat.pow_add, show L + (52 - L) = 52 by omega]
      rw [← this]
      exact Nat.mul_le_mul_right _ l1
    have c2 : n * 2 ^ (52 - L) < 9007199254740992 := by
      have : 2 ^ (L + 1) * 2 ^ (52 - L) = 9007199254740992 := by
        rw [← Nat.pow_add, show L + 1 + (52 - L) = 53 by omega]
      rw [← this]
      exact Nat.mul_lt_mul_of_pos_right l2 (Nat.pow_pos (by omega))
    have er : FP.Core.roundRatio FP.Core.b64 false n 1 0 = .fin false (n * 2 ^ (52 - L)) ((L : Int) - 52) := by
      unfold FP.Core.roundRatio
      rw [if_neg (by omega)]
      unfold FP.Core.roundAt
      rw [hqu, hc]
      unfold FP.Core.settle
      rw [hp, if_pos c2]
      unfold FP.Core.bound
      rw [hq, if_pos (by omega)]
    have ee : FP.Core.encode FP.Core.b64 (.fin false (n * 2 ^ (52 - L)) ((L : Int) - 52)) = (L + 1023) * 4503599627370496 + (n * 2 ^ (52 - L) - 4503599627370496) := by
      show (if n * 2 ^ (52 - L) < FP.Core.Fmt.tails FP.Core.b64 then FP.Core.assemble FP.Core.b64 false 0 (n * 2 ^ (52 - L)) else FP.Core.assemble FP.Core.b64 false (((L : Int) - 52 - FP.Core.Fmt.qmin FP.Core.b64).toNat + 1) (n * 2 ^ (52 - L) - FP.Core.Fmt.tails FP.Core.b64)) = _
      rw [ht, hm, if_neg (by omega), show ((L : Int) - 52 - -1074).toNat + 1 = L + 1023 by omega]
      show ((0 : Nat) * 2048 + (L + 1023)) * 4503599627370496 + (n * 2 ^ (52 - L) - 4503599627370496) = _
      omega
    rw [er, ee, UInt64.toNat_ofNat']
    obtain ⟨t, htt⟩ : ∃ t, n * 2 ^ (52 - L) - 4503599627370496 = t := ⟨_, rfl⟩
    have ht2 : t < 4503599627370496 := by omega
    rw [htt]
    have e64 : (2 : Nat) ^ 64 = 18446744073709551616 := rfl
    have emod : ((L + 1023) * 4503599627370496 + t) % 2 ^ 64 = (L + 1023) * 4503599627370496 + t := by
      rw [e64]; omega
    rw [emod]
    have f1 : FP.Core.fieldE FP.Core.b64 ((L + 1023) * 4503599627370496 + t) = L + 1023 := by
      show ((L + 1023) * 4503599627370496 + t) / 4503599627370496 % 2048 = L + 1023
      omega
    have f2 : FP.Core.Fmt.exps FP.Core.b64 - 1 = 2047 := rfl
    have dec : FP.Core.decode FP.Core.b64 ((L + 1023) * 4503599627370496 + t) = .fin (FP.Core.fieldS FP.Core.b64 ((L + 1023) * 4503599627370496 + t)) (FP.Core.Fmt.tails FP.Core.b64 + FP.Core.fieldT FP.Core.b64 ((L + 1023) * 4503599627370496 + t)) (FP.Core.Fmt.qmin FP.Core.b64 + ((FP.Core.fieldE FP.Core.b64 ((L + 1023) * 4503599627370496 + t) : Int) - 1)) := by
      unfold FP.Core.decode
      rw [f1, f2, if_neg (by omega), if_neg (by omega)]
    exact ⟨_, _, _, dec, fun _ => by rw [ht]; omega⟩
theorem zud_num {x y : Int} (hx : 0 ≤ x ∧ x < 2147483648) (hy : 0 < y ∧ y < 2147483648) : vf_n64 (FP.ddiv (FP.i2d (Int32.ofInt x)) (FP.i2d (Int32.ofInt y))) := by
  obtain ⟨s, c, q, e1, _⟩ := zi2d hx.1 hx.2
  obtain ⟨t, d, r, e2, e3⟩ := zi2d (x := y) (by omega) hy.2
  have hd := e3 (by omega)
  have e : FP.ddiv (FP.i2d (Int32.ofInt x)) (FP.i2d (Int32.ofInt y)) = UInt64.ofNat (FP.Core.encode FP.Core.b64 (FP.Core.quotient FP.Core.b64 (FP.Core.decode FP.Core.b64 (FP.i2d (Int32.ofInt x)).toNat) (FP.Core.decode FP.Core.b64 (FP.i2d (Int32.ofInt y)).toNat))) := rfl
  rw [e, e1, e2]
  refine zn64 ?_
  show FP.Core.encode FP.Core.b64 (if d = 0 then (if c = 0 then .nan else .inf (s != t)) else FP.Core.roundRatio FP.Core.b64 (s != t) c d (q - r)) % 9223372036854775808 ≤ _
  rw [if_neg hd]
  exact zrnd _ _ _ _
