/-! ===== 78: what holds at the start ===== -/
theorem ztb {w : Cond} (i : Nat) (h : lw_tbl[i]? = some w) : w ∈ lw_tbl := List.mem_of_getElem? h
section ZST
variable {s : State} {args : Array Value}
theorem zst_K (hts : ∀ w ∈ lw_tbl, w.before args s = true) : ∃ D cI cQ cL, va_K D zcls (zTl cI cQ cL) s := by
  have htz : ∀ w ∈ zWL, w.before args s = true := fun w hw => hts w (List.mem_filter.mp hw).1
  obtain ⟨c0, i0, k0⟩ := u_known (C := RX0) (T := TX0) (N := 3) (n := 3) htz zin_1 (hts _ (ztb 228 (by decide +kernel)))
  obtain ⟨c1, i1, k1⟩ := u_known (C := RX1) (T := TX1) (N := 8) (n := 8) htz zin_2 (hts _ (ztb 248 (by decide +kernel)))
  obtain ⟨c2, i2, k2⟩ := u_known (C := RX2) (T := TX2) (N := 4) (n := 4) htz zin_3 (hts _ (ztb 132 (by decide +kernel)))
  obtain ⟨c3, i3, k3⟩ := u_known (C := RX3) (T := TX3) (N := 15) (n := 15) htz zin_4 (hts _ (ztb 138 (by decide +kernel)))
  obtain ⟨c4, i4, k4⟩ := u_known (C := RX4) (T := TX4) (N := 4) (n := 4) htz zin_5 (hts _ (ztb 124 (by decide +kernel)))
  obtain ⟨c5, i5, k5⟩ := u_known (C := RX5) (T := TX5) (N := 12) (n := 12) htz zin_6 (hts _ (ztb 887 (by decide +kernel)))
  obtain ⟨cI, kI, pI, a1, a2, a3⟩ := Cond.arrayClass_spec (type := .int) (hts _ (ztb 212 (by decide +kernel)))
  obtain ⟨cL, kL, pL, l1, l2, l3⟩ := Cond.arrayClass_spec (type := .long) (hts _ (ztb 1256 (by decide +kernel)))
  obtain ⟨pQ, cQ, kQ, b1, b2, b3, b4, b5⟩ := Cond.arrayOver_spec (n := RX3) (hts _ (ztb 234 (by decide +kernel)))
  refine ⟨(fun k => [c0, c1, c2, c3, c4, c5].getD k c0, fun k => [i0, i1, i2, i3, i4, i5].getD k i0), cI, cQ, cL, ?_, ?_⟩
  · intro k q hq
    match k, hq with
    | 0, hq => cases hq; exact k0
    | 1, hq => cases hq; exact k1
    | 2, hq => cases hq; exact k2
    | 3, hq => cases hq; exact k3
    | 4, hq => cases hq; exact k4
    | 5, hq => cases hq; exact k5
    | k + 6, hq => simp at hq
  · intro k q hq
    match k, hq with
    | 0, hq => cases hq; exact ⟨fun n z => ⟨fun k h => (by cases h), kI, a2, pI, a3⟩, a1⟩
    | 1, hq => cases hq; exact ⟨fun n z => ⟨fun k h => (by cases h), kQ, b3, pQ, b4⟩, kQ, pQ, b3, b4, b1, b5⟩
    | 2, hq => cases hq; exact ⟨fun n z => ⟨fun k h => (by cases h), kL, l2, pL, l3⟩, l1⟩
    | k + 3, hq => simp at hq
theorem zst_N (hts : ∀ w ∈ lw_tbl, w.before args s = true) : zNst s := fun w hw => va_Nw.of (znest_on (List.mem_filter.mp hw).2) (hts w (List.mem_filter.mp hw).1)
theorem zst_ng : ∀ w ∈ zNg, w ∈ lw_tbl := zmem_all (by decide +kernel)
theorem zst_sr : zStr.all (fun q => decide (Cond.stringRef RX4 q.1 q.2 ∈ lw_tbl)) = true := by decide +kernel
theorem zst_Tv (hts : ∀ w ∈ lw_tbl, w.before args s = true) : zTv s := by
  refine ⟨fun w hw => va_Nw.of (zNg_ot w hw) (hts w (zst_ng w hw)), fun q hq => ?_⟩
  have h1 := hts _ (of_decide_eq_true (List.all_eq_true.mp zst_sr q hq))
  obtain ⟨c, k, hc, _⟩ := Cond.instantiable_spec (hts (Cond.instantiable RX4 4) (ztb 124 (by decide +kernel)))
  obtain ⟨k2, cf, i, a, _, _, _, _, _, hev⟩ := Cond.stringRef_spec hc h1
  exact ⟨a, vk_R.of h1 hev⟩
theorem zst_Nc (hgv : (Jvm.Cond.and given_1 narrow_1).before args s = true) : zNc s := by
  have hs := flat_of_before _ hgv
  exact ⟨va_Nc.of (hs (Cond.not (.castable (zexn 2) (zexn 1))) (by decide +kernel)), va_Nc.of (hs (Cond.not (.castable (zexn 1) (zexn 3))) (by decide +kernel)), va_Nc.of (hs (Cond.not (.castable (zexn 2) (zexn 3))) (by decide +kernel))⟩
theorem zst_Ts (hts : ∀ w ∈ lw_tbl, w.before args s = true) (hgv : (Jvm.Cond.and given_1 narrow_1).before args s = true) : zTs (fun q => s.heap.size ≤ q) s s.heap := by
  have hs := flat_of_before _ hgv
  refine ⟨vx_Zqof (hts _ (ztb 557 (by decide +kernel))) (hts _ (ztb 115 (by decide +kernel))) (hs (Cond.isRef (.static Bundle.tN "UNASSIGNED_STACK" Bundle.steD)) (by decide +kernel)) (fun a h1 h2 => Nat.lt_irrefl _ (Nat.lt_of_lt_of_le h1 h2)), vx_Zqof (hts _ (ztb 559 (by decide +kernel))) (hts _ (ztb 115 (by decide +kernel))) (hs (Cond.isRef (.static Bundle.tN "SUPPRESSED_SENTINEL" Bundle.listD)) (by decide +kernel)) (fun a h1 h2 => Nat.lt_irrefl _ (Nat.lt_of_lt_of_le h1 h2))⟩
theorem zst_O (hts : ∀ w ∈ lw_tbl, w.before args s = true) : va_AO RX3 s := va_AO.of (hts (Cond.arrayOver (.object RX3)) (ztb 234 (by decide +kernel)))
end ZST
/-- the ints at the start -/
def zs0 : zSt := fun k j => if (k = 2 ∨ k = 3 ∨ k = 4 ∨ k = 5 ∨ k = 6) ∧ j = 0 then 3 else if k = 8 ∧ j = 3 then -1 else if k = 65 ∧ j = 0 then 3 else 0
theorem zs0_ok : zoks zs0 := by
  intro k j
  unfold zs0
  split
  · exact ⟨by decide, by decide⟩
  · split
    · exact ⟨by decide, by decide⟩
    · split <;> exact ⟨by decide, by decide⟩
theorem zs0_z {k : Nat} (h : 10 ≤ k) (h5 : k ≠ 65) (j : Nat) : zs0 k j = 0 := by
  unfold zs0
  rw [if_neg (by omega), if_neg (by omega), if_neg (by omega)]
theorem zs0_65 (j : Nat) (h : j ≠ 0) : zs0 65 j = 0 := by
  unfold zs0
  rw [if_neg (by omega), if_neg (by omega), if_neg (by omega)]
theorem zs0_inv : Inv zs0 2000 := by
  have e3 : zs0 65 3 = 0 := rfl
  have z : ∀ k j, 10 ≤ k → k < 60 → zs0 k j = 0 := fun k j h1 h2 => zs0_z h1 (by omega) j
  refine ⟨zs0 65, 0, fun _ => zs0 65, 0, fun _ => 0, ⟨⟨⟨rfl, rfl, rfl, rfl, rfl⟩, fun j hj => ⟨?_, ?_, ?_⟩, fun i hi => ⟨?_, ?_⟩, fun b hb => ⟨?_, ?_, ?_⟩, fun q => ?_⟩, ⟨0, by decide, rfl, fun i hi => by omega⟩, rfl, rfl, fun i hi => by omega⟩, ⟨rfl, rfl, fun i hi => by omega, rfl, fun i hi => by omega⟩, ⟨⟨⟨by decide, by decide, by decide, by decide⟩, fun j hj => ?_, fun j o hj => ?_, fun b hb => ?_⟩, fun q => ?_⟩, by decide, fun i hi => by omega, by decide, fun i hi => by omega⟩
  · exact (z 10 j (by decide) (by decide)).trans (zs0_65 _ (by omega)).symm
  · exact (z 11 j (by decide) (by decide)).trans (zs0_65 _ (by omega)).symm
  · exact (z 12 j (by decide) (by decide)).trans (zs0_65 _ (by omega)).symm
  · exact (z 13 i (by decide) (by decide)).trans (zs0_65 _ (by omega)).symm
  · exact (z 14 i (by decide) (by decide)).trans (zs0_65 _ (by omega)).symm
  · exact (z 15 b (by decide) (by decide)).trans (zs0_65 _ (by omega)).symm
  · exact (z 16 b (by decide) (by decide)).trans (zs0_65 _ (by omega)).symm
  · exact (z 17 b (by decide) (by decide)).trans (zs0_65 _ (by omega)).symm
  · rw [e3] at q; cases q
  · have e : zs0 65 1 = 0 := rfl
    rw [e] at hj; omega
  · have e : zs0 65 1 = 0 := rfl
    rw [e] at hj; omega
  · have e : zs0 65 2 = 0 := rfl
    rw [e] at hb; omega
  · rw [e3] at q; cases q
