/-! ===== 78: what holds at the start ===== -/
theorem ztb {w : Cond} (i : Nat) (h : lw_tbl[i]? = some w) : w ∈ lw_tbl := List.mem_of_getElem? h
section ZST
variable {s : State} {args : Array Value}
theorem zst_K (hts : ∀ w ∈ lw_tbl, w.before args s = true) : ∃ D cI cQ, va_K D zcls (ztys cI cQ) s := by
  have htz : ∀ w ∈ zWL, w.before args s = true := fun w hw => hts w (List.mem_filter.mp hw).1
  obtain ⟨c0, i0, k0⟩ := u_known (C := RX0) (T := TX0) (N := 3) (n := 3) htz zin_1 (hts _ (ztb 160 (by decide +kernel)))
  obtain ⟨c1, i1, k1⟩ := u_known (C := RX1) (T := TX1) (N := 8) (n := 8) htz zin_2 (hts _ (ztb 179 (by decide +kernel)))
  obtain ⟨c2, i2, k2⟩ := u_known (C := RX2) (T := TX2) (N := 4) (n := 4) htz zin_3 (hts _ (ztb 67 (by decide +kernel)))
  obtain ⟨c3, i3, k3⟩ := u_known (C := RX3) (T := TX3) (N := 15) (n := 15) htz zin_4 (hts _ (ztb 73 (by decide +kernel)))
  obtain ⟨c4, i4, k4⟩ := u_known (C := RX4) (T := TX4) (N := 4) (n := 4) htz zin_5 (hts _ (ztb 59 (by decide +kernel)))
  obtain ⟨cI, kI, pI, a1, a2, a3⟩ := Cond.arrayClass_spec (type := .int) (hts _ (ztb 144 (by decide +kernel)))
  obtain ⟨pQ, cQ, kQ, b1, b2, b3, b4, b5⟩ := Cond.arrayOver_spec (n := RX3) (hts _ (ztb 166 (by decide +kernel)))
  refine ⟨(fun k => [c0, c1, c2, c3, c4].getD k c0, fun k => [i0, i1, i2, i3, i4].getD k i0), cI, cQ, ?_, ?_⟩
  · intro k q hq
    match k, hq with
    | 0, hq => cases hq; exact k0
    | 1, hq => cases hq; exact k1
    | 2, hq => cases hq; exact k2
    | 3, hq => cases hq; exact k3
    | 4, hq => cases hq; exact k4
    | k + 5, hq => simp at hq
  · intro k q hq
    match k, hq with
    | 0, hq => cases hq; exact ⟨fun n z => ⟨fun k h => (by cases h), kI, a2, pI, a3⟩, a1⟩
    | 1, hq => cases hq; exact ⟨fun n z => ⟨fun k h => (by cases h), kQ, b3, pQ, b4⟩, kQ, pQ, b3, b4, b1, b5⟩
    | k + 2, hq => simp at hq
theorem zst_N (hts : ∀ w ∈ lw_tbl, w.before args s = true) : zNst s := fun w hw => va_Nw.of (znest_on (List.mem_filter.mp hw).2) (hts w (List.mem_filter.mp hw).1)
theorem zst_O (hts : ∀ w ∈ lw_tbl, w.before args s = true) : va_AO RX3 s := va_AO.of (hts (Cond.arrayOver (.object RX3)) (ztb 166 (by decide +kernel)))
end ZST
/-- the ints at the start -/
def zs0 : zSt := fun k j => if (k = 2 ∨ k = 3 ∨ k = 4 ∨ k = 5 ∨ k = 6) ∧ j = 0 then 3 else if k = 8 ∧ j = 3 then -1 else 0
theorem zs0_ok : zoks zs0 := by
  intro k j
  unfold zs0
  split
  · exact ⟨by decide, by decide⟩
  · split <;> exact ⟨by decide, by decide⟩
theorem zs0_z {k : Nat} (h : 9 ≤ k) (j : Nat) : zs0 k j = 0 := by
  unfold zs0
  rw [if_neg (by omega), if_neg (by omega)]
/-- the empty workshop -/
def zS0 : Row := fun k => if k = 0 then 3 else 0
theorem zS0_z {k : Nat} (h : k ≠ 0) : zS0 k = 0 := if_neg h
theorem zs0_CR : CR zs0 zS0 1150 := by
  have e3 : zS0 3 = 0 := rfl
  have z : ∀ k j, 10 ≤ k → zs0 k j = 0 := fun k j h1 => zs0_z (by omega) j
  refine ⟨0, fun _ => zS0, 0, fun _ => 0, ⟨⟨⟨rfl, rfl, rfl, rfl, rfl⟩, fun j hj => ⟨?_, ?_, ?_⟩, fun i hi => ⟨?_, ?_⟩, fun b hb => ⟨?_, ?_, ?_⟩, fun q => ?_⟩, ⟨0, by decide, rfl, fun i hi => by omega⟩, rfl, rfl, fun i hi => by omega⟩, ⟨⟨⟨by decide, by decide, by decide, by decide⟩, fun j hj => ?_, fun j o hj => ?_, fun b hb => ?_⟩, fun q => ?_⟩, by decide, fun i hi => by omega, by decide, fun i hi => by omega⟩
  · exact (z 10 j (by decide)).trans (zS0_z (by omega)).symm
  · exact (z 11 j (by decide)).trans (zS0_z (by omega)).symm
  · exact (z 12 j (by decide)).trans (zS0_z (by omega)).symm
  · exact (z 13 i (by decide)).trans (zS0_z (by omega)).symm
  · exact (z 14 i (by decide)).trans (zS0_z (by omega)).symm
  · exact (z 15 b (by decide)).trans (zS0_z (by omega)).symm
  · exact (z 16 b (by decide)).trans (zS0_z (by omega)).symm
  · exact (z 17 b (by decide)).trans (zS0_z (by omega)).symm
  · rw [e3] at q; cases q
  · have e : zS0 1 = 0 := rfl
    rw [e] at hj; omega
  · have e : zS0 1 = 0 := rfl
    rw [e] at hj; omega
  · have e : zS0 2 = 0 := rfl
    rw [e] at hb; omega
  · rw [e3] at q; cases q
theorem zs0_J1 : J1 zs0 zS0 0 := by
  refine ⟨zs0_CR, ⟨rfl, rfl, rfl, rfl, rfl⟩, ⟨zs0_z (by decide) 0, zs0_z (by decide) 1, zs0_z (by decide) 2⟩, fun j hj => by omega, fun j _ _ => zs0_z (by decide) _, fun j o hl => ?_, fun i _ => ⟨zS0_z (by omega), zS0_z (by omega)⟩, fun x _ => zs0_z (by decide) x⟩
  have h := hl.1
  have e : zS0 1 = 0 := rfl
  rw [e] at h; omega
