/-! ===== 79: the first world, place by place (written by a program) ===== -/
theorem zapp5 {α : Type} (w : List α) (a b c d e : α) : ((((w ++ [a]) ++ [b]) ++ [c]) ++ [d]) ++ [e] = w ++ [a, b, c, d, e] := by simp
def zL0 (cI cQ : ClassId) (x pl sh : Nat) (a : Nat → Nat) (d st fr hi ss : Nat) (f : Nat → Option Nat) (s0 s1 s2 s3 : Nat) (a0 a1 a2 a3 : Nat → Nat) (tx bt q jo op kp br : Nat) : va_W := ((x, .inr (4, [.ref pl, .ref sh, .ref hi, .ref tx])) :: ((zPlw cI pl sh a d st fr ++ zHiw cI cQ hi ss f s0 s1 s2 s3 a0 a1 a2 a3) ++ zTxw cI tx bt)) ++ [(q, .inl (cI, 3, .inl (fun _ => 0))), (jo, .inl (cI, 9, .inl (fun _ => 0))), (op, .inl (cI, 48, .inl (fun _ => 0))), (kp, .inl (cI, 48, .inl (fun _ => 0))), (br, .inl (cI, 9, .inl (fun _ => 0)))]
def zA0 (x pl sh : Nat) (a : Nat → Nat) (d st fr hi ss : Nat) (s0 s1 s2 s3 : Nat) (a0 a1 a2 a3 : Nat → Nat) (tx bt q jo op kp br scr : Nat) : Nat → Nat := fun i => [x, pl, sh, s0, s1, s2, s3, hi, tx, q, a 0, a 1, a 2, a 3, a 4, a 5, a 6, a 7, a 8, a 9, a0 0, a0 1, a0 2, a0 3, a0 4, a0 5, a0 6, a0 7, a0 8, a0 9, a1 0, a1 1, a1 2, a1 3, a1 4, a1 5, a1 6, a1 7, a1 8, a1 9, a2 0, a2 1, a2 2, a2 3, a2 4, a2 5, a2 6, a2 7, a2 8, a2 9, a3 0, a3 1, a3 2, a3 3, a3 4, a3 5, a3 6, a3 7, a3 8, a3 9, d, st, fr, ss, bt, jo, op, kp, br, 0, 0, 0, 0, 0, 0, 0, 0, 0, 0, 0, 0, 0, 0, 0, 0, 0, 0, 0, 0, 0, scr].getD i 0
def zg (i : Nat) : Nat := [0, 1, 2, 18, 29, 40, 51, 16, 62, 64, 3, 4, 5, 6, 7, 8, 9, 10, 11, 12, 19, 20, 21, 22, 23, 24, 25, 26, 27, 28, 30, 31, 32, 33, 34, 35, 36, 37, 38, 39, 41, 42, 43, 44, 45, 46, 47, 48, 49, 50, 52, 53, 54, 55, 56, 57, 58, 59, 60, 61, 13, 14, 15, 17, 63, 65, 66, 67, 68].getD i 0
theorem zg_inj : ∀ i, i < 69 → ∀ j, j < 69 → zg i = zg j → i = j := by decide +kernel
theorem zarr_congr {c : ClassId} {N : Nat} {f g : Nat → Value} (h : ∀ j, j < N → f j = g j) : arrV c N f = arrV c N g := by
  have e : (fun j : Fin N => f j.val) = fun j : Fin N => g j.val := funext fun j => h j.val j.isLt
  unfold arrV
  rw [e]
theorem zrow0 {A : Nat → Nat} {cI cQ : ClassId} {k : Nat} (h1 : 9 ≤ k) (h3 : k ≠ 63) : zent A cI cQ zs0 k = .inl (cI, (zal k).toNat, .inl (fun _ => 0)) := by
  rw [zent_row h1 h3]
  have e : (fun j => Int32.ofInt (zs0 k j)) = fun _ => 0 := funext fun j => by rw [zs0_z h1]; rfl
  rw [e]
section ASM
variable {D : va_G} {A0 : Nat → Prop} {H : Heap} {cI cQ : ClassId} {x pl sh : Nat} {a : Nat → Nat} {d st fr hi ss : Nat} {f : Nat → Option Nat} {s0 s1 s2 s3 : Nat} {a0 a1 a2 a3 : Nat → Nat} {tx bt q jo op kp br scr : Nat}
theorem zasm_P (hf : f 0 = some s0 ∧ f 1 = some s1 ∧ f 2 = some s2 ∧ f 3 = some s3) (hP : va_P D zcls (zL0 cI cQ x pl sh a d st fr hi ss f s0 s1 s2 s3 a0 a1 a2 a3 tx bt q jo op kp br) H) : va_P D zcls (zW (zA0 x pl sh a d st fr hi ss s0 s1 s2 s3 a0 a1 a2 a3 tx bt q jo op kp br scr) cI cQ zs0) H := by
  intro i e hz
  obtain ⟨h1, rfl⟩ := zW_at hz
  rcases (show i = 0 ∨ i = 1 ∨ i = 2 ∨ i = 3 ∨ i = 4 ∨ i = 5 ∨ i = 6 ∨ i = 7 ∨ i = 8 ∨ i = 9 ∨ i = 10 ∨ i = 11 ∨ i = 12 ∨ i = 13 ∨ i = 14 ∨ i = 15 ∨ i = 16 ∨ i = 17 ∨ i = 18 ∨ i = 19 ∨ i = 20 ∨ i = 21 ∨ i = 22 ∨ i = 23 ∨ i = 24 ∨ i = 25 ∨ i = 26 ∨ i = 27 ∨ i = 28 ∨ i = 29 ∨ i = 30 ∨ i = 31 ∨ i = 32 ∨ i = 33 ∨ i = 34 ∨ i = 35 ∨ i = 36 ∨ i = 37 ∨ i = 38 ∨ i = 39 ∨ i = 40 ∨ i = 41 ∨ i = 42 ∨ i = 43 ∨ i = 44 ∨ i = 45 ∨ i = 46 ∨ i = 47 ∨ i = 48 ∨ i = 49 ∨ i = 50 ∨ i = 51 ∨ i = 52 ∨ i = 53 ∨ i = 54 ∨ i = 55 ∨ i = 56 ∨ i = 57 ∨ i = 58 ∨ i = 59 ∨ i = 60 ∨ i = 61 ∨ i = 62 ∨ i = 63 ∨ i = 64 ∨ i = 65 ∨ i = 66 ∨ i = 67 ∨ i = 68 by omega) with rfl | rfl | rfl | rfl | rfl | rfl | rfl | rfl | rfl | rfl | rfl | rfl | rfl | rfl | rfl | rfl | rfl | rfl | rfl | rfl | rfl | rfl | rfl | rfl | rfl | rfl | rfl | rfl | rfl | rfl | rfl | rfl | rfl | rfl | rfl | rfl | rfl | rfl | rfl | rfl | rfl | rfl | rfl | rfl | rfl | rfl | rfl | rfl | rfl | rfl | rfl | rfl | rfl | rfl | rfl | rfl | rfl | rfl | rfl | rfl | rfl | rfl | rfl | rfl | rfl | rfl | rfl | rfl | rfl
  · exact hP 0 _ rfl
  · exact hP 1 _ rfl
  · exact hP 2 _ rfl
  · exact hP 18 _ rfl
  · exact hP 29 _ rfl
  · exact hP 40 _ rfl
  · exact hP 51 _ rfl
  · exact hP 16 _ rfl
  · exact hP 62 _ rfl
  · rw [zrow0 (k := 9) (by decide) (by decide)]
    exact hP 64 _ rfl
  · rw [zrow0 (k := 10) (by decide) (by decide)]
    exact hP 3 _ rfl
  · rw [zrow0 (k := 11) (by decide) (by decide)]
    exact hP 4 _ rfl
  · rw [zrow0 (k := 12) (by decide) (by decide)]
    exact hP 5 _ rfl
  · rw [zrow0 (k := 13) (by decide) (by decide)]
    exact hP 6 _ rfl
  · rw [zrow0 (k := 14) (by decide) (by decide)]
    exact hP 7 _ rfl
  · rw [zrow0 (k := 15) (by decide) (by decide)]
    exact hP 8 _ rfl
  · rw [zrow0 (k := 16) (by decide) (by decide)]
    exact hP 9 _ rfl
  · rw [zrow0 (k := 17) (by decide) (by decide)]
    exact hP 10 _ rfl
  · rw [zrow0 (k := 18) (by decide) (by decide)]
    exact hP 11 _ rfl
  · rw [zrow0 (k := 19) (by decide) (by decide)]
    exact hP 12 _ rfl
  · rw [zrow0 (k := 20) (by decide) (by decide)]
    exact hP 19 _ rfl
  · rw [zrow0 (k := 21) (by decide) (by decide)]
    exact hP 20 _ rfl
  · rw [zrow0 (k := 22) (by decide) (by decide)]
    exact hP 21 _ rfl
  · rw [zrow0 (k := 23) (by decide) (by decide)]
    exact hP 22 _ rfl
  · rw [zrow0 (k := 24) (by decide) (by decide)]
    exact hP 23 _ rfl
  · rw [zrow0 (k := 25) (by decide) (by decide)]
    exact hP 24 _ rfl
  · rw [zrow0 (k := 26) (by decide) (by decide)]
    exact hP 25 _ rfl
  · rw [zrow0 (k := 27) (by decide) (by decide)]
    exact hP 26 _ rfl
  · rw [zrow0 (k := 28) (by decide) (by decide)]
    exact hP 27 _ rfl
  · rw [zrow0 (k := 29) (by decide) (by decide)]
    exact hP 28 _ rfl
  · rw [zrow0 (k := 30) (by decide) (by decide)]
    exact hP 30 _ rfl
  · rw [zrow0 (k := 31) (by decide) (by decide)]
    exact hP 31 _ rfl
  · rw [zrow0 (k := 32) (by decide) (by decide)]
    exact hP 32 _ rfl
  · rw [zrow0 (k := 33) (by decide) (by decide)]
    exact hP 33 _ rfl
  · rw [zrow0 (k := 34) (by decide) (by decide)]
    exact hP 34 _ rfl
  · rw [zrow0 (k := 35) (by decide) (by decide)]
    exact hP 35 _ rfl
  · rw [zrow0 (k := 36) (by decide) (by decide)]
    exact hP 36 _ rfl
  · rw [zrow0 (k := 37) (by decide) (by decide)]
    exact hP 37 _ rfl
  · rw [zrow0 (k := 38) (by decide) (by decide)]
    exact hP 38 _ rfl
  · rw [zrow0 (k := 39) (by decide) (by decide)]
    exact hP 39 _ rfl
  · rw [zrow0 (k := 40) (by decide) (by decide)]
    exact hP 41 _ rfl
  · rw [zrow0 (k := 41) (by decide) (by decide)]
    exact hP 42 _ rfl
  · rw [zrow0 (k := 42) (by decide) (by decide)]
    exact hP 43 _ rfl
  · rw [zrow0 (k := 43) (by decide) (by decide)]
    exact hP 44 _ rfl
  · rw [zrow0 (k := 44) (by decide) (by decide)]
    exact hP 45 _ rfl
  · rw [zrow0 (k := 45) (by decide) (by decide)]
    exact hP 46 _ rfl
  · rw [zrow0 (k := 46) (by decide) (by decide)]
    exact hP 47 _ rfl
  · rw [zrow0 (k := 47) (by decide) (by decide)]
    exact hP 48 _ rfl
  · rw [zrow0 (k := 48) (by decide) (by decide)]
    exact hP 49 _ rfl
  · rw [zrow0 (k := 49) (by decide) (by decide)]
    exact hP 50 _ rfl
  · rw [zrow0 (k := 50) (by decide) (by decide)]
    exact hP 52 _ rfl
  · rw [zrow0 (k := 51) (by decide) (by decide)]
    exact hP 53 _ rfl
  · rw [zrow0 (k := 52) (by decide) (by decide)]
    exact hP 54 _ rfl
  · rw [zrow0 (k := 53) (by decide) (by decide)]
    exact hP 55 _ rfl
  · rw [zrow0 (k := 54) (by decide) (by decide)]
    exact hP 56 _ rfl
  · rw [zrow0 (k := 55) (by decide) (by decide)]
    exact hP 57 _ rfl
  · rw [zrow0 (k := 56) (by decide) (by decide)]
    exact hP 58 _ rfl
  · rw [zrow0 (k := 57) (by decide) (by decide)]
    exact hP 59 _ rfl
  · rw [zrow0 (k := 58) (by decide) (by decide)]
    exact hP 60 _ rfl
  · rw [zrow0 (k := 59) (by decide) (by decide)]
    exact hP 61 _ rfl
  · rw [zrow0 (k := 60) (by decide) (by decide)]
    exact hP 13 _ rfl
  · rw [zrow0 (k := 61) (by decide) (by decide)]
    exact hP 14 _ rfl
  · rw [zrow0 (k := 62) (by decide) (by decide)]
    exact hP 15 _ rfl
  · have h := hP 17 _ rfl
    have e : vp_cell cQ (4, .inr (.inr (.inr (.inr f)))) = vp_cell cQ (4, .inr (.inr (.inr (.inr (fun i => some (zA0 x pl sh a d st fr hi ss s0 s1 s2 s3 a0 a1 a2 a3 tx bt q jo op kp br scr (3 + i))))))) := by
      rw [vp_cell_q, vp_cell_q]
      refine zarr_congr (fun j hj => ?_)
      rcases (show j = 0 ∨ j = 1 ∨ j = 2 ∨ j = 3 by omega) with rfl | rfl | rfl | rfl
      · rw [hf.1]; rfl
      · rw [hf.2.1]; rfl
      · rw [hf.2.2.1]; rfl
      · rw [hf.2.2.2]; rfl
    have h2 : H[ss]? = some (vp_cell cQ (4, .inr (.inr (.inr (.inr f))))) := h
    rw [e] at h2
    exact h2
  · rw [zrow0 (k := 64) (by decide) (by decide)]
    exact hP 63 _ rfl
  · rw [zrow0 (k := 65) (by decide) (by decide)]
    exact hP 65 _ rfl
  · rw [zrow0 (k := 66) (by decide) (by decide)]
    exact hP 66 _ rfl
  · rw [zrow0 (k := 67) (by decide) (by decide)]
    exact hP 67 _ rfl
  · rw [zrow0 (k := 68) (by decide) (by decide)]
    exact hP 68 _ rfl
theorem zasm_k {i : Nat} {p : Nat × va_E} (hz : (zW (zA0 x pl sh a d st fr hi ss s0 s1 s2 s3 a0 a1 a2 a3 tx bt q jo op kp br scr) cI cQ zs0)[i]? = some p) : i < 69 ∧ ∃ e, (zL0 cI cQ x pl sh a d st fr hi ss f s0 s1 s2 s3 a0 a1 a2 a3 tx bt q jo op kp br)[zg i]? = some (p.1, e) := by
  obtain ⟨h1, rfl⟩ := zW_at hz
  refine ⟨h1, ?_⟩
  rcases (show i = 0 ∨ i = 1 ∨ i = 2 ∨ i = 3 ∨ i = 4 ∨ i = 5 ∨ i = 6 ∨ i = 7 ∨ i = 8 ∨ i = 9 ∨ i = 10 ∨ i = 11 ∨ i = 12 ∨ i = 13 ∨ i = 14 ∨ i = 15 ∨ i = 16 ∨ i = 17 ∨ i = 18 ∨ i = 19 ∨ i = 20 ∨ i = 21 ∨ i = 22 ∨ i = 23 ∨ i = 24 ∨ i = 25 ∨ i = 26 ∨ i = 27 ∨ i = 28 ∨ i = 29 ∨ i = 30 ∨ i = 31 ∨ i = 32 ∨ i = 33 ∨ i = 34 ∨ i = 35 ∨ i = 36 ∨ i = 37 ∨ i = 38 ∨ i = 39 ∨ i = 40 ∨ i = 41 ∨ i = 42 ∨ i = 43 ∨ i = 44 ∨ i = 45 ∨ i = 46 ∨ i = 47 ∨ i = 48 ∨ i = 49 ∨ i = 50 ∨ i = 51 ∨ i = 52 ∨ i = 53 ∨ i = 54 ∨ i = 55 ∨ i = 56 ∨ i = 57 ∨ i = 58 ∨ i = 59 ∨ i = 60 ∨ i = 61 ∨ i = 62 ∨ i = 63 ∨ i = 64 ∨ i = 65 ∨ i = 66 ∨ i = 67 ∨ i = 68 by omega) with rfl | rfl | rfl | rfl | rfl | rfl | rfl | rfl | rfl | rfl | rfl | rfl | rfl | rfl | rfl | rfl | rfl | rfl | rfl | rfl | rfl | rfl | rfl | rfl | rfl | rfl | rfl | rfl | rfl | rfl | rfl | rfl | rfl | rfl | rfl | rfl | rfl | rfl | rfl | rfl | rfl | rfl | rfl | rfl | rfl | rfl | rfl | rfl | rfl | rfl | rfl | rfl | rfl | rfl | rfl | rfl | rfl | rfl | rfl | rfl | rfl | rfl | rfl | rfl | rfl | rfl | rfl | rfl | rfl <;> exact ⟨_, rfl⟩
theorem zasm_D (hD : va_D A0 (zL0 cI cQ x pl sh a d st fr hi ss f s0 s1 s2 s3 a0 a1 a2 a3 tx bt q jo op kp br)) : va_D A0 (zW (zA0 x pl sh a d st fr hi ss s0 s1 s2 s3 a0 a1 a2 a3 tx bt q jo op kp br scr) cI cQ zs0) := by
  refine ⟨fun i j p r hz hj e => ?_, fun i p hz => ?_⟩
  · obtain ⟨i1, ei, hi2⟩ := zasm_k (f := f) hz
    obtain ⟨j1, ej, hj2⟩ := zasm_k (f := f) hj
    exact zg_inj i i1 j j1 (hD.1 (zg i) (zg j) (p.1, ei) (r.1, ej) hi2 hj2 e)
  · obtain ⟨i1, ei, hi2⟩ := zasm_k (f := f) hz
    exact hD.2 (zg i) (p.1, ei) hi2
end ASM
