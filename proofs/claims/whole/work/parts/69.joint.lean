/-! ===== 69: the cases as contracts (written by a program, but its head) ===== -/
theorem zEas {as : List zVal} {n : Nat} (h : ∀ a ∈ as, zok a) : ∀ a ∈ (zR n :: as), zok a := by
  intro a ha
  rcases List.mem_cons.mp ha with e | ha
  · rw [e]; trivial
  · exact h a ha
theorem zok1 {x : Int} (h : zr x) : ∀ a ∈ [zI x], zok a := by
  intro a ha
  rw [List.mem_singleton.mp ha]; exact h
theorem zok2 {x y : Int} (h : zr x) (h2 : zr y) : ∀ a ∈ [zI x, zI y], zok a := by
  intro a ha
  rcases List.mem_cons.mp ha with e | ha
  · rw [e]; exact h
  · exact zok1 h2 a ha
theorem zok3 {x y z : Int} (h : zr x) (h2 : zr y) (h3 : zr z) : ∀ a ∈ [zI x, zI y, zI z], zok a := by
  intro a ha
  rcases List.mem_cons.mp ha with e | ha
  · rw [e]; exact h
  · exact zok2 h2 h3 a ha
theorem zok0 : ∀ a ∈ ([] : List zVal), zok a := fun a ha => by cases ha
theorem jdir {l : Launch} {m' : Nat} {as as' : List zVal} {m : Nat} {x : Option zOut} {yy : zSt → Option zOut} {ω : zSt} {B : Int} (hJ : Jnt [] x yy ω B)
    (hret : ∀ (v : Int) (σ1 : zSt), x = zRI v σ1 → zCon l m as ω (some (zI v)) σ1)
    (hmod : ∀ (σ1 σ2 : zSt) (v : Int), zoks σ1 → yy σ1 = zRI v σ2 → zCon l m' as' σ1 (some (zI v)) σ2) :
    ∃ (v : Int) (σ1 σ2 : zSt), zCon l m as ω (some (zI v)) σ1 ∧ (zoks σ1 → zCon l m' as' σ1 (some (zI v)) σ2) ∧ Inv σ2 B := by
  rcases hJ with ⟨v, ω1, ω2, x1, y1, n1, hI⟩ | ⟨i, k, ω2, hk, x1, y1, n1, hI⟩
  · exact ⟨v, ω1, ω2, hret v ω1 x1, fun hz => hmod ω1 ω2 v hz y1, hI⟩
  · simp at hk
theorem jlong {l : Launch} {m' : Nat} {as as' : List zVal} {m : Nat} {x : Option zOut} {yy : zSt → Option zOut} {ω : zSt} {S : Row} {c : Nat} {H : Nat → Row} {t : Nat} {T : Row} {B B' : Int} (hB : B ≤ B') (g : RM ω S c H t T) (hf : ∀ τ, RM τ S c H t T → BothL x (yy τ) ω τ B)
    (hret : ∀ (v : Int64) (σ1 : zSt), x = zRL v σ1 → zCon l m as ω (some (zL v)) σ1)
    (hmod : ∀ (σ1 σ2 : zSt) (v : Int64), zoks σ1 → yy σ1 = zRL v σ2 → zCon l m' as' σ1 (some (zL v)) σ2) :
    ∃ (v : Int64) (σ1 σ2 : zSt), zCon l m as ω (some (zL v)) σ1 ∧ (zoks σ1 → zCon l m' as' σ1 (some (zL v)) σ2) ∧ Inv σ2 B' := by
  obtain ⟨v, ω1, τ1, S1, c1, H1, t1, T1, x1, y1, n1, rc1, rm1, ra1, fc1, fm1⟩ := hf ω g
  obtain ⟨v2, ω2, τ2, S2, c2, H2, t2, T2, x2, y2, n2, rc2, rm2, ra2, fc2, fm2⟩ := hf ω1 (g.fc fc1)
  have e := x1.symm.trans x2
  have e1 : v = v2 ∧ ω1 = ω2 := by
    injection e with e
    injection e with e
    injection e with e e3
    injection e with e
    injection e with e
    injection e with e
    exact ⟨e, e3⟩
  obtain ⟨rfl, rfl⟩ := e1
  exact ⟨v, ω1, τ2, hret v ω1 x1, fun hz => hmod ω1 τ2 v hz y2, Inv.up ⟨S2, c2, H2, t2, T2, rc2.fm ra2 fm2, rm2, ra2⟩ hB⟩
theorem jc_0 (l : Launch) (hfl : l.stackTraces = false) {σ : zSt} {f : Nat → Int64} {B : Int} (hB : 2000 ≤ B ∧ B ≤ 500000) (hI : Inv σ B) (hσ : zoks σ) {x0 : Int} (q0 : zr x0) : ∃ (k v : Int) (σ1 σ2 : zSt) (f1 : Nat → Int64), zHCon l yL_begin cL_begin 4 [(0, 9, 12, 13)] [zI x0] σ f k σ1 f1 ∧ (zoks σ1 → zCon l 47 (zR 9 :: [zI x0]) σ1 (some (zI v)) σ2) ∧ σ2 9 0 = k ∧ (k = 0 → f1 0 = zl v) ∧ (0 ≤ k ∧ k ≤ 100) ∧ Inv σ2 (B + 600) := by
  obtain ⟨S, c, H, t, T, h, g, a⟩ := hI
  refine jcomb (ks := [1]) (x := zE 0 0 [some (zR 0), some (zI x0), none] [] σ) (yy := fun τ => zE 47 0 [some (zR 9), some (zI x0), none] [] τ) (joint h g a (by omega) (fun τ g9 => (f_begin h g9 a x0).up (by omega))) (by decide) (fun v σ1 e => hr_0 l q0 hσ e) ?_ (fun σ1 σ2 v hz e => zE_con l e zMk_47 (Nat.le_of_ble_eq_true rfl) (zEas (zok1 q0)) hz)
  intro i k σ1 hk e
  match i, hk with
  | 0, hk =>
    obtain rfl : 1 = k := by simpa using hk
    exact hx_0_0 l hfl q0 hσ e
  | i + 1, hk => simp at hk
theorem jc_1 (l : Launch) (hfl : l.stackTraces = false) {σ : zSt} {f : Nat → Int64} {B : Int} (hB : 2000 ≤ B ∧ B ≤ 500000) (hI : Inv σ B) (hσ : zoks σ) {x0 x1 : Int} (q0 : zr x0) (q1 : zr x1) : ∃ (k v : Int) (σ1 σ2 : zSt) (f1 : Nat → Int64), zHCon l yL_addJob cL_addJob 5 [(0, 10, 13, 13), (0, 10, 17, 19)] [zI x0, zI x1] σ f k σ1 f1 ∧ (zoks σ1 → zCon l 50 (zR 9 :: [zI x0, zI x1]) σ1 (some (zI v)) σ2) ∧ σ2 9 0 = k ∧ (k = 0 → f1 0 = zl v) ∧ (0 ≤ k ∧ k ≤ 100) ∧ Inv σ2 (B + 600) := by
  obtain ⟨S, c, H, t, T, h, g, a⟩ := hI
  refine jcomb (ks := [1, 2]) (x := zE 1 0 [some (zR 0), some (zI x0), some (zI x1)] [] σ) (yy := fun τ => zE 50 0 [some (zR 9), some (zI x0), some (zI x1)] [] τ) (joint h g a (by omega) (fun τ g9 => (f_addJob h g9 a x0 x1).up (by omega))) (by decide) (fun v σ1 e => hr_1 l q0 q1 hσ e) ?_ (fun σ1 σ2 v hz e => zE_con l e zMk_50 (Nat.le_of_ble_eq_true rfl) (zEas (zok2 q0 q1)) hz)
  intro i k σ1 hk e
  match i, hk with
  | 0, hk =>
    obtain rfl : 1 = k := by simpa using hk
    exact hx_1_0 l hfl q0 q1 hσ e
  | 1, hk =>
    obtain rfl : 2 = k := by simpa using hk
    exact hx_1_1 l hfl q0 q1 hσ e
  | i + 2, hk => simp at hk
theorem jc_2 (l : Launch) (hfl : l.stackTraces = false) {σ : zSt} {f : Nat → Int64} {B : Int} (hB : 2000 ≤ B ∧ B ≤ 500000) (hI : Inv σ B) (hσ : zoks σ) {x0 x1 x2 : Int} (q0 : zr x0) (q1 : zr x1) (q2 : zr x2) : ∃ (k v : Int) (σ1 σ2 : zSt) (f1 : Nat → Int64), zHCon l yL_addOperation cL_addOperation 6 [(0, 12, 15, 25), (0, 12, 19, 13), (0, 12, 23, 19)] [zI x0, zI x1, zI x2] σ f k σ1 f1 ∧ (zoks σ1 → zCon l 53 (zR 9 :: [zI x0, zI x1, zI x2]) σ1 (some (zI v)) σ2) ∧ σ2 9 0 = k ∧ (k = 0 → f1 0 = zl v) ∧ (0 ≤ k ∧ k ≤ 100) ∧ Inv σ2 (B + 600) := by
  obtain ⟨S, c, H, t, T, h, g, a⟩ := hI
  refine jcomb (ks := [3, 1, 2]) (x := zE 2 0 [some (zR 0), some (zI x0), some (zI x1), some (zI x2)] [] σ) (yy := fun τ => zE 53 0 [some (zR 9), some (zI x0), some (zI x1), some (zI x2)] [] τ) (joint h g a (by omega) (fun τ g9 => (f_addOperation h g9 a x0 x1 x2).up (by omega))) (by decide) (fun v σ1 e => hr_2 l q0 q1 q2 hσ e) ?_ (fun σ1 σ2 v hz e => zE_con l e zMk_53 (Nat.le_of_ble_eq_true rfl) (zEas (zok3 q0 q1 q2)) hz)
  intro i k σ1 hk e
  match i, hk with
  | 0, hk =>
    obtain rfl : 3 = k := by simpa using hk
    exact hx_2_0 l hfl q0 q1 q2 hσ e
  | 1, hk =>
    obtain rfl : 1 = k := by simpa using hk
    exact hx_2_1 l hfl q0 q1 q2 hσ e
  | 2, hk =>
    obtain rfl : 2 = k := by simpa using hk
    exact hx_2_2 l hfl q0 q1 q2 hσ e
  | i + 3, hk => simp at hk
theorem jc_3 (l : Launch) (hfl : l.stackTraces = false) {σ : zSt} {f : Nat → Int64} {B : Int} (hB : 2000 ≤ B ∧ B ≤ 500000) (hI : Inv σ B) (hσ : zoks σ) {x0 x1 x2 : Int} (q0 : zr x0) (q1 : zr x1) (q2 : zr x2) : ∃ (k v : Int) (σ1 σ2 : zSt) (f1 : Nat → Int64), zHCon l yL_breakDown cL_breakDown 6 [(0, 12, 15, 25), (0, 12, 19, 13), (0, 12, 23, 19)] [zI x0, zI x1, zI x2] σ f k σ1 f1 ∧ (zoks σ1 → zCon l 56 (zR 9 :: [zI x0, zI x1, zI x2]) σ1 (some (zI v)) σ2) ∧ σ2 9 0 = k ∧ (k = 0 → f1 0 = zl v) ∧ (0 ≤ k ∧ k ≤ 100) ∧ Inv σ2 (B + 600) := by
  obtain ⟨S, c, H, t, T, h, g, a⟩ := hI
  refine jcomb (ks := [3, 1, 2]) (x := zE 3 0 [some (zR 0), some (zI x0), some (zI x1), some (zI x2)] [] σ) (yy := fun τ => zE 56 0 [some (zR 9), some (zI x0), some (zI x1), some (zI x2)] [] τ) (joint h g a (by omega) (fun τ g9 => (f_breakDown h g9 a x0 x1 x2).up (by omega))) (by decide) (fun v σ1 e => hr_3 l q0 q1 q2 hσ e) ?_ (fun σ1 σ2 v hz e => zE_con l e zMk_56 (Nat.le_of_ble_eq_true rfl) (zEas (zok3 q0 q1 q2)) hz)
  intro i k σ1 hk e
  match i, hk with
  | 0, hk =>
    obtain rfl : 3 = k := by simpa using hk
    exact hx_3_0 l hfl q0 q1 q2 hσ e
  | 1, hk =>
    obtain rfl : 1 = k := by simpa using hk
    exact hx_3_1 l hfl q0 q1 q2 hσ e
  | 2, hk =>
    obtain rfl : 2 = k := by simpa using hk
    exact hx_3_2 l hfl q0 q1 q2 hσ e
  | i + 3, hk => simp at hk
theorem jc_4 (l : Launch) (hfl : l.stackTraces = false) {σ : zSt} {f : Nat → Int64} {B : Int} (hB : 2000 ≤ B ∧ B ≤ 500000) (hI : Inv σ B) (hσ : zoks σ)  : ∃ (k v : Int) (σ1 σ2 : zSt) (f1 : Nat → Int64), zHCon l yL_repaired cL_repaired 3 [(0, 8, 11, 19)] [] σ f k σ1 f1 ∧ (zoks σ1 → zCon l 57 (zR 9 :: []) σ1 (some (zI v)) σ2) ∧ σ2 9 0 = k ∧ (k = 0 → f1 0 = zl v) ∧ (0 ≤ k ∧ k ≤ 100) ∧ Inv σ2 (B + 600) := by
  obtain ⟨S, c, H, t, T, h, g, a⟩ := hI
  refine jcomb (ks := [2]) (x := zE 4 0 [some (zR 0)] [] σ) (yy := fun τ => zE 57 0 [some (zR 9)] [] τ) (joint h g a (by omega) (fun τ g9 => (f_repaired h g9 a).up (by omega))) (by decide) (fun v σ1 e => hr_4 l hσ e) ?_ (fun σ1 σ2 v hz e => zE_con l e zMk_57 (Nat.le_of_ble_eq_true rfl) (zEas zok0) hz)
  intro i k σ1 hk e
  match i, hk with
  | 0, hk =>
    obtain rfl : 2 = k := by simpa using hk
    exact hx_4_0 l hfl hσ e
  | i + 1, hk => simp at hk
theorem jc_9 (l : Launch) (hfl : l.stackTraces = false) {σ : zSt} {f : Nat → Int64} {B : Int} (hB : 2000 ≤ B ∧ B ≤ 500000) (hI : Inv σ B) (hσ : zoks σ) {x0 x1 : Int} (q0 : zr x0) (q1 : zr x1) : ∃ (k v : Int) (σ1 σ2 : zSt) (f1 : Nat → Int64), zHCon l yL_bargain cL_bargain 5 [(0, 10, 13, 25), (0, 10, 17, 13), (0, 10, 21, 19)] [zI x0, zI x1] σ f k σ1 f1 ∧ (zoks σ1 → zCon l 79 (zR 9 :: [zI x0, zI x1]) σ1 (some (zI v)) σ2) ∧ σ2 9 0 = k ∧ (k = 0 → f1 0 = zl v) ∧ (0 ≤ k ∧ k ≤ 100) ∧ Inv σ2 (B + 600) := by
  obtain ⟨S, c, H, t, T, h, g, a⟩ := hI
  refine jcomb (ks := [3, 1, 2]) (x := zE 9 0 [some (zR 0), some (zI x0), some (zI x1)] [] σ) (yy := fun τ => zE 79 0 [some (zR 9), some (zI x0), some (zI x1)] [] τ) (joint h g a (by omega) (fun τ g9 => (f_bargain h g9 a x0 x1).up (by omega))) (by decide) (fun v σ1 e => hr_9 l q0 q1 hσ e) ?_ (fun σ1 σ2 v hz e => zE_con l e zMk_79 (Nat.le_of_ble_eq_true rfl) (zEas (zok2 q0 q1)) hz)
  intro i k σ1 hk e
  match i, hk with
  | 0, hk =>
    obtain rfl : 3 = k := by simpa using hk
    exact hx_9_0 l hfl q0 q1 hσ e
  | 1, hk =>
    obtain rfl : 1 = k := by simpa using hk
    exact hx_9_1 l hfl q0 q1 hσ e
  | 2, hk =>
    obtain rfl : 2 = k := by simpa using hk
    exact hx_9_2 l hfl q0 q1 hσ e
  | i + 3, hk => simp at hk
theorem jc_10 (l : Launch) (hfl : l.stackTraces = false) {σ : zSt} {f : Nat → Int64} {B : Int} (hB : 2000 ≤ B ∧ B ≤ 500000) (hI : Inv σ B) (hσ : zoks σ) {x0 x1 : Int} (q0 : zr x0) (q1 : zr x1) : ∃ (k v : Int) (σ1 σ2 : zSt) (f1 : Nat → Int64), zHCon l yL_overtime cL_overtime 5 [(0, 10, 13, 25), (0, 10, 17, 19)] [zI x0, zI x1] σ f k σ1 f1 ∧ (zoks σ1 → zCon l 80 (zR 9 :: [zI x0, zI x1]) σ1 (some (zI v)) σ2) ∧ σ2 9 0 = k ∧ (k = 0 → f1 0 = zl v) ∧ (0 ≤ k ∧ k ≤ 100) ∧ Inv σ2 (B + 600) := by
  obtain ⟨S, c, H, t, T, h, g, a⟩ := hI
  refine jcomb (ks := [3, 2]) (x := zE 10 0 [some (zR 0), some (zI x0), some (zI x1), none] [] σ) (yy := fun τ => zE 80 0 [some (zR 9), some (zI x0), some (zI x1)] [] τ) (joint h g a (by omega) (fun τ g9 => (f_overtime h g9 a x0 x1).up (by omega))) (by decide) (fun v σ1 e => hr_10 l q0 q1 hσ e) ?_ (fun σ1 σ2 v hz e => zE_con l e zMk_80 (Nat.le_of_ble_eq_true rfl) (zEas (zok2 q0 q1)) hz)
  intro i k σ1 hk e
  match i, hk with
  | 0, hk =>
    obtain rfl : 3 = k := by simpa using hk
    exact hx_10_0 l hfl q0 q1 hσ e
  | 1, hk =>
    obtain rfl : 2 = k := by simpa using hk
    exact hx_10_1 l hfl q0 q1 hσ e
  | i + 2, hk => simp at hk
theorem jc_25 (l : Launch) (hfl : l.stackTraces = false) {σ : zSt} {f : Nat → Int64} {B : Int} (hB : 2000 ≤ B ∧ B ≤ 500000) (hI : Inv σ B) (hσ : zoks σ)  : ∃ (k v : Int) (σ1 σ2 : zSt) (f1 : Nat → Int64), zHCon l yL_undo cL_undo 3 [(0, 8, 11, 19)] [] σ f k σ1 f1 ∧ (zoks σ1 → zCon l 115 (zR 9 :: []) σ1 (some (zI v)) σ2) ∧ σ2 9 0 = k ∧ (k = 0 → f1 0 = zl v) ∧ (0 ≤ k ∧ k ≤ 100) ∧ Inv σ2 (B + 600) := by
  obtain ⟨S, c, H, t, T, h, g, a⟩ := hI
  refine jcomb (ks := [2]) (x := zE 25 0 [some (zR 0)] [] σ) (yy := fun τ => zE 115 0 [some (zR 9)] [] τ) (joint h g a (by omega) (fun τ g9 => (f_undo h g9 a).up (by omega))) (by decide) (fun v σ1 e => hr_25 l hσ e) ?_ (fun σ1 σ2 v hz e => zE_con l e zMk_115 (Nat.le_of_ble_eq_true rfl) (zEas zok0) hz)
  intro i k σ1 hk e
  match i, hk with
  | 0, hk =>
    obtain rfl : 2 = k := by simpa using hk
    exact hx_25_0 l hfl hσ e
  | i + 1, hk => simp at hk
theorem jc_5 (l : Launch) (hfl : l.stackTraces = false) {σ : zSt} {f : Nat → Int64} {B : Int} (hB : 2000 ≤ B ∧ B ≤ 500000) (hI : Inv σ B) (hσ : zoks σ) {x0 : Int} (q0 : zr x0) : ∃ (k v : Int) (σ1 σ2 : zSt) (f1 : Nat → Int64), zHCon l yL_plan cL_plan 4 [(0, 9, 12, 13)] [zI x0] σ f k σ1 f1 ∧ (zoks σ1 → zCon l 70 (zR 9 :: [zI x0]) σ1 (some (zI v)) σ2) ∧ σ2 9 0 = k ∧ (k = 0 → f1 0 = zl v) ∧ (0 ≤ k ∧ k ≤ 100) ∧ Inv σ2 (B + 600) := by
  obtain ⟨S, c, H, t, T, h, g, a⟩ := hI
  refine jcomb (ks := [1]) (x := zE 5 0 [some (zR 0), some (zI x0)] [] σ) (yy := fun τ => zE 70 0 [some (zR 9), some (zI x0)] [] τ) (joint h g a (by omega) (fun τ g9 => (f_plan (by omega) h g9 a x0).up (by omega))) (by decide) (fun v σ1 e => hr_5 l q0 hσ e) ?_ (fun σ1 σ2 v hz e => zE_con l e zMk_70 (Nat.le_of_ble_eq_true rfl) (zEas (zok1 q0)) hz)
  intro i k σ1 hk e
  match i, hk with
  | 0, hk =>
    obtain rfl : 1 = k := by simpa using hk
    exact hx_5_0 l hfl q0 hσ e
  | i + 1, hk => simp at hk
theorem jc_6 (l : Launch) (hfl : l.stackTraces = false) {σ : zSt} {f : Nat → Int64} {B : Int} (hB : 2000 ≤ B ∧ B ≤ 500000) (hI : Inv σ B) (hσ : zoks σ)  : ∃ (k v : Int) (σ1 σ2 : zSt) (f1 : Nat → Int64), zHCon l yL_shift cL_shift 3 [(0, 8, 11, 19)] [] σ f k σ1 f1 ∧ (zoks σ1 → zCon l 74 (zR 9 :: []) σ1 (some (zI v)) σ2) ∧ σ2 9 0 = k ∧ (k = 0 → f1 0 = zl v) ∧ (0 ≤ k ∧ k ≤ 100) ∧ Inv σ2 (B + 600) := by
  obtain ⟨S, c, H, t, T, h, g, a⟩ := hI
  refine jcomb (ks := [2]) (x := zE 6 0 [some (zR 0)] [] σ) (yy := fun τ => zE 74 0 [some (zR 9)] [] τ) (joint h g a (by omega) (fun τ g9 => f_shift (by omega) h g9 a)) (by decide) (fun v σ1 e => hr_6 l hσ e) ?_ (fun σ1 σ2 v hz e => zE_con l e zMk_74 (Nat.le_of_ble_eq_true rfl) (zEas zok0) hz)
  intro i k σ1 hk e
  match i, hk with
  | 0, hk =>
    obtain rfl : 2 = k := by simpa using hk
    exact hx_6_0 l hfl hσ e
  | i + 1, hk => simp at hk
theorem jc_7 (l : Launch) (hfl : l.stackTraces = false) {σ : zSt} {f : Nat → Int64} {B : Int} (hB : 2000 ≤ B ∧ B ≤ 500000) (hI : Inv σ B) (hσ : zoks σ) {x0 x1 : Int} (q0 : zr x0) (q1 : zr x1) : ∃ (k v : Int) (σ1 σ2 : zSt) (f1 : Nat → Int64), zHCon l yL_replan cL_replan 5 [(0, 10, 13, 13), (0, 10, 17, 19)] [zI x0, zI x1] σ f k σ1 f1 ∧ (zoks σ1 → zCon l 77 (zR 9 :: [zI x0, zI x1]) σ1 (some (zI v)) σ2) ∧ σ2 9 0 = k ∧ (k = 0 → f1 0 = zl v) ∧ (0 ≤ k ∧ k ≤ 100) ∧ Inv σ2 (B + 600) := by
  obtain ⟨S, c, H, t, T, h, g, a⟩ := hI
  refine jcomb (ks := [1, 2]) (x := zE 7 0 [some (zR 0), some (zI x0), some (zI x1)] [] σ) (yy := fun τ => zE 77 0 [some (zR 9), some (zI x0), some (zI x1)] [] τ) (joint h g a (by omega) (fun τ g9 => f_replan (by omega) h g9 a x0 x1)) (by decide) (fun v σ1 e => hr_7 l q0 q1 hσ e) ?_ (fun σ1 σ2 v hz e => zE_con l e zMk_77 (Nat.le_of_ble_eq_true rfl) (zEas (zok2 q0 q1)) hz)
  intro i k σ1 hk e
  match i, hk with
  | 0, hk =>
    obtain rfl : 1 = k := by simpa using hk
    exact hx_7_0 l hfl q0 q1 hσ e
  | 1, hk =>
    obtain rfl : 2 = k := by simpa using hk
    exact hx_7_1 l hfl q0 q1 hσ e
  | i + 2, hk => simp at hk
theorem jc_8 (l : Launch) (hfl : l.stackTraces = false) {σ : zSt} {f : Nat → Int64} {B : Int} (hB : 2000 ≤ B ∧ B ≤ 500000) (hI : Inv σ B) (hσ : zoks σ)  : ∃ (k v : Int) (σ1 σ2 : zSt) (f1 : Nat → Int64), zHCon l yL_accept cL_accept 3 [(0, 8, 11, 19)] [] σ f k σ1 f1 ∧ (zoks σ1 → zCon l 78 (zR 9 :: []) σ1 (some (zI v)) σ2) ∧ σ2 9 0 = k ∧ (k = 0 → f1 0 = zl v) ∧ (0 ≤ k ∧ k ≤ 100) ∧ Inv σ2 (B + 600) := by
  obtain ⟨S, c, H, t, T, h, g, a⟩ := hI
  refine jcomb (ks := [2]) (x := zE 8 0 [some (zR 0)] [] σ) (yy := fun τ => zE 78 0 [some (zR 9)] [] τ) (joint h g a (by omega) (fun τ g9 => (f_accept h g9 a).up (by omega))) (by decide) (fun v σ1 e => hr_8 l hσ e) ?_ (fun σ1 σ2 v hz e => zE_con l e zMk_78 (Nat.le_of_ble_eq_true rfl) (zEas zok0) hz)
  intro i k σ1 hk e
  match i, hk with
  | 0, hk =>
    obtain rfl : 2 = k := by simpa using hk
    exact hx_8_0 l hfl hσ e
  | i + 1, hk => simp at hk
theorem jc_13 (l : Launch) (hfl : l.stackTraces = false) {σ : zSt} {f : Nat → Int64} {B : Int} (hB : 2000 ≤ B ∧ B ≤ 500000) (hI : Inv σ B) (hσ : zoks σ) {x0 x1 : Int} (q0 : zr x0) (q1 : zr x1) : ∃ (k v : Int) (σ1 σ2 : zSt) (f1 : Nat → Int64), zHCon l yL_breakdown cL_breakdown 5 [(0, 10, 13, 25), (0, 10, 17, 13)] [zI x0, zI x1] σ f k σ1 f1 ∧ (zoks σ1 → zCon l 86 (zR 9 :: [zI x0, zI x1]) σ1 (some (zI v)) σ2) ∧ σ2 9 0 = k ∧ (k = 0 → f1 0 = zl v) ∧ (0 ≤ k ∧ k ≤ 100) ∧ Inv σ2 (B + 600) := by
  obtain ⟨S, c, H, t, T, h, g, a⟩ := hI
  refine jcomb (ks := [3, 1]) (x := zE 13 0 [some (zR 0), some (zI x0), some (zI x1)] [] σ) (yy := fun τ => zE 86 0 [some (zR 9), some (zI x0), some (zI x1)] [] τ) (joint h g a (by omega) (fun τ g9 => (f_breakdown h g9 a x0 x1).up (by omega))) (by decide) (fun v σ1 e => hr_13 l q0 q1 hσ e) ?_ (fun σ1 σ2 v hz e => zE_con l e zMk_86 (Nat.le_of_ble_eq_true rfl) (zEas (zok2 q0 q1)) hz)
  intro i k σ1 hk e
  match i, hk with
  | 0, hk =>
    obtain rfl : 3 = k := by simpa using hk
    exact hx_13_0 l hfl q0 q1 hσ e
  | 1, hk =>
    obtain rfl : 1 = k := by simpa using hk
    exact hx_13_1 l hfl q0 q1 hσ e
  | i + 2, hk => simp at hk
theorem jc_14 (l : Launch) (hfl : l.stackTraces = false) {σ : zSt} {f : Nat → Int64} {B : Int} (hB : 2000 ≤ B ∧ B ≤ 500000) (hI : Inv σ B) (hσ : zoks σ) {x0 : Int} (q0 : zr x0) : ∃ (k v : Int) (σ1 σ2 : zSt) (f1 : Nat → Int64), zHCon l yL_value cL_value 4 [(0, 9, 12, 13)] [zI x0] σ f k σ1 f1 ∧ (zoks σ1 → zCon l 91 (zR 9 :: [zI x0]) σ1 (some (zI v)) σ2) ∧ σ2 9 0 = k ∧ (k = 0 → f1 0 = zl v) ∧ (0 ≤ k ∧ k ≤ 100) ∧ Inv σ2 (B + 600) := by
  obtain ⟨S, c, H, t, T, h, g, a⟩ := hI
  refine jcomb (ks := [1]) (x := zE 14 0 [some (zR 0), some (zI x0)] [] σ) (yy := fun τ => zE 91 0 [some (zR 9), some (zI x0)] [] τ) (joint h g a (by omega) (fun τ g9 => (f_value (by omega) h g9 a x0).up (by omega))) (by decide) (fun v σ1 e => hr_14 l q0 hσ e) ?_ (fun σ1 σ2 v hz e => zE_con l e zMk_91 (Nat.le_of_ble_eq_true rfl) (zEas (zok1 q0)) hz)
  intro i k σ1 hk e
  match i, hk with
  | 0, hk =>
    obtain rfl : 1 = k := by simpa using hk
    exact hx_14_0 l hfl q0 hσ e
  | i + 1, hk => simp at hk
theorem jc_11 (l : Launch) (hfl : l.stackTraces = false) {σ : zSt} {f : Nat → Int64} {B : Int} (hB : 2000 ≤ B ∧ B ≤ 500000) (hI : Inv σ B) (hσ : zoks σ) {x0 x1 : Int} (q0 : zr x0) (q1 : zr x1) : ∃ (k v : Int) (σ1 σ2 : zSt) (f1 : Nat → Int64), zHCon l yL_job cL_job 5 [(0, 10, 13, 25), (0, 10, 17, 13)] [zI x0, zI x1] σ f k σ1 f1 ∧ (zoks σ1 → zCon l 82 (zR 9 :: [zI x0, zI x1]) σ1 (some (zI v)) σ2) ∧ σ2 9 0 = k ∧ (k = 0 → f1 0 = zl v) ∧ (0 ≤ k ∧ k ≤ 100) ∧ Inv σ2 (B + 600) := by
  obtain ⟨S, c, H, t, T, h, g, a⟩ := hI
  refine jcomb (ks := [3, 1]) (x := zE 11 0 [some (zR 0), some (zI x0), some (zI x1)] [] σ) (yy := fun τ => zE 82 0 [some (zR 9), some (zI x0), some (zI x1)] [] τ) (joint h g a (by omega) (fun τ g9 => (f_job h g9 a x0 x1).up (by omega))) (by decide) (fun v σ1 e => hr_11 l q0 q1 hσ e) ?_ (fun σ1 σ2 v hz e => zE_con l e zMk_82 (Nat.le_of_ble_eq_true rfl) (zEas (zok2 q0 q1)) hz)
  intro i k σ1 hk e
  match i, hk with
  | 0, hk =>
    obtain rfl : 3 = k := by simpa using hk
    exact hx_11_0 l hfl q0 q1 hσ e
  | 1, hk =>
    obtain rfl : 1 = k := by simpa using hk
    exact hx_11_1 l hfl q0 q1 hσ e
  | i + 2, hk => simp at hk
theorem jc_12 (l : Launch) (hfl : l.stackTraces = false) {σ : zSt} {f : Nat → Int64} {B : Int} (hB : 2000 ≤ B ∧ B ≤ 500000) (hI : Inv σ B) (hσ : zoks σ) {x0 x1 x2 : Int} (q0 : zr x0) (q1 : zr x1) (q2 : zr x2) : ∃ (k v : Int) (σ1 σ2 : zSt) (f1 : Nat → Int64), zHCon l yL_operation cL_operation 6 [(0, 12, 15, 25), (0, 12, 19, 13)] [zI x0, zI x1, zI x2] σ f k σ1 f1 ∧ (zoks σ1 → zCon l 85 (zR 9 :: [zI x0, zI x1, zI x2]) σ1 (some (zI v)) σ2) ∧ σ2 9 0 = k ∧ (k = 0 → f1 0 = zl v) ∧ (0 ≤ k ∧ k ≤ 100) ∧ Inv σ2 (B + 600) := by
  obtain ⟨S, c, H, t, T, h, g, a⟩ := hI
  refine jcomb (ks := [3, 1]) (x := zE 12 0 [some (zR 0), some (zI x0), some (zI x1), some (zI x2), none] [] σ) (yy := fun τ => zE 85 0 [some (zR 9), some (zI x0), some (zI x1), some (zI x2)] [] τ) (joint h g a (by omega) (fun τ g9 => (f_operation (by omega) h g9 a x0 x1 x2).up (by omega))) (by decide) (fun v σ1 e => hr_12 l q0 q1 q2 hσ e) ?_ (fun σ1 σ2 v hz e => zE_con l e zMk_85 (Nat.le_of_ble_eq_true rfl) (zEas (zok3 q0 q1 q2)) hz)
  intro i k σ1 hk e
  match i, hk with
  | 0, hk =>
    obtain rfl : 3 = k := by simpa using hk
    exact hx_12_0 l hfl q0 q1 q2 hσ e
  | 1, hk =>
    obtain rfl : 1 = k := by simpa using hk
    exact hx_12_1 l hfl q0 q1 q2 hσ e
  | i + 2, hk => simp at hk
theorem jd_15 (l : Launch) {σ : zSt} {B : Int} (hB : 2000 ≤ B ∧ B ≤ 500000) (hI : Inv σ B) (hσ : zoks σ) : ∃ (v : Int) (σ1 σ2 : zSt), zCon l 15 [zR 0] σ (some (zI v)) σ1 ∧ (zoks σ1 → zCon l 93 [zR 9] σ1 (some (zI v)) σ2) ∧ Inv σ2 (B + 600) := by
  obtain ⟨S, c, H, t, T, h, g, a⟩ := hI
  exact jdir (x := zE 15 0 [some (zR 0)] [] σ) (yy := fun τ => zE 93 0 [some (zR 9)] [] τ) (joint h g a (by omega) (fun τ g9 => (f_meeting (by omega) h g9 a).up (by omega))) (fun v σ1 e => zE_con l e zMk_15 (Nat.le_of_ble_eq_true rfl) (zEas zok0) hσ) (fun σ1 σ2 v hz e => zE_con l e zMk_93 (Nat.le_of_ble_eq_true rfl) (zEas zok0) hz)
theorem jc_16 (l : Launch) (hfl : l.stackTraces = false) {σ : zSt} {f : Nat → Int64} {B : Int} (hB : 2000 ≤ B ∧ B ≤ 500000) (hI : Inv σ B) (hσ : zoks σ) {x0 x1 : Int} (q0 : zr x0) (q1 : zr x1) : ∃ (k v : Int) (σ1 σ2 : zSt) (f1 : Nat → Int64), zHCon l yL_onMachine cL_onMachine 5 [(0, 10, 13, 25)] [zI x0, zI x1] σ f k σ1 f1 ∧ (zoks σ1 → zCon l 95 (zR 9 :: [zI x0, zI x1]) σ1 (some (zI v)) σ2) ∧ σ2 9 0 = k ∧ (k = 0 → f1 0 = zl v) ∧ (0 ≤ k ∧ k ≤ 100) ∧ Inv σ2 (B + 600) := by
  obtain ⟨S, c, H, t, T, h, g, a⟩ := hI
  refine jcomb (ks := [3]) (x := zE 16 0 [some (zR 0), some (zI x0), some (zI x1)] [] σ) (yy := fun τ => zE 95 0 [some (zR 9), some (zI x0), some (zI x1), none, none, none] [] τ) (joint h g a (by omega) (fun τ g9 => (f_onMachine h g9 a x0 x1).up (by omega))) (by decide) (fun v σ1 e => hr_16 l q0 q1 hσ e) ?_ (fun σ1 σ2 v hz e => zE_con l e zMk_95 (Nat.le_of_ble_eq_true rfl) (zEas (zok2 q0 q1)) hz)
  intro i k σ1 hk e
  match i, hk with
  | 0, hk =>
    obtain rfl : 3 = k := by simpa using hk
    exact hx_16_0 l hfl q0 q1 hσ e
  | i + 1, hk => simp at hk
theorem jc_17 (l : Launch) (hfl : l.stackTraces = false) {σ : zSt} {f : Nat → Int64} {B : Int} (hB : 2000 ≤ B ∧ B ≤ 500000) (hI : Inv σ B) (hσ : zoks σ) {x0 : Int} (q0 : zr x0) : ∃ (k v : Int) (σ1 σ2 : zSt) (f1 : Nat → Int64), zHCon l yL_latenessBy cL_latenessBy 4 [(0, 9, 12, 13)] [zI x0] σ f k σ1 f1 ∧ (zoks σ1 → zCon l 97 (zR 9 :: [zI x0]) σ1 (some (zI v)) σ2) ∧ σ2 9 0 = k ∧ (k = 0 → f1 0 = zl v) ∧ (0 ≤ k ∧ k ≤ 100) ∧ Inv σ2 (B + 600) := by
  obtain ⟨S, c, H, t, T, h, g, a⟩ := hI
  refine jcomb (ks := [1]) (x := zE 17 0 [some (zR 0), some (zI x0)] [] σ) (yy := fun τ => zE 97 0 [some (zR 9), some (zI x0)] [] τ) (joint h g a (by omega) (fun τ g9 => (f_latenessBy h g9 a x0).up (by omega))) (by decide) (fun v σ1 e => hr_17 l q0 hσ e) ?_ (fun σ1 σ2 v hz e => zE_con l e zMk_97 (Nat.le_of_ble_eq_true rfl) (zEas (zok1 q0)) hz)
  intro i k σ1 hk e
  match i, hk with
  | 0, hk =>
    obtain rfl : 1 = k := by simpa using hk
    exact hx_17_0 l hfl q0 hσ e
  | i + 1, hk => simp at hk
theorem jd_18 (l : Launch) {σ : zSt} {B : Int} (hB : 2000 ≤ B ∧ B ≤ 500000) (hI : Inv σ B) (hσ : zoks σ) : ∃ (v : Int) (σ1 σ2 : zSt), zCon l 18 [zR 0] σ (some (zI v)) σ1 ∧ (zoks σ1 → zCon l 98 [zR 9] σ1 (some (zI v)) σ2) ∧ Inv σ2 (B + 600) := by
  obtain ⟨S, c, H, t, T, h, g, a⟩ := hI
  exact jdir (x := zE 18 0 [some (zR 0), none, none, none, none] [] σ) (yy := fun τ => zE 98 0 [some (zR 9), none, none] [] τ) (joint h g a (by omega) (fun τ g9 => (f_bestRule h g9 a).up (by omega))) (fun v σ1 e => zE_con l e zMk_18 (Nat.le_of_ble_eq_true rfl) (zEas zok0) hσ) (fun σ1 σ2 v hz e => zE_con l e zMk_98 (Nat.le_of_ble_eq_true rfl) (zEas zok0) hz)
theorem jd_19 (l : Launch) {σ : zSt} {B : Int} (hB : 2000 ≤ B ∧ B ≤ 500000) (hI : Inv σ B) (hσ : zoks σ) : ∃ (v : Int) (σ1 σ2 : zSt), zCon l 19 [zR 0] σ (some (zI v)) σ1 ∧ (zoks σ1 → zCon l 100 [zR 9] σ1 (some (zI v)) σ2) ∧ Inv σ2 (B + 600) := by
  obtain ⟨S, c, H, t, T, h, g, a⟩ := hI
  exact jdir (x := zE 19 0 [some (zR 0)] [] σ) (yy := fun τ => zE 100 0 [some (zR 9)] [] τ) (joint h g a (by omega) (fun τ g9 => (f_latenessShifted (by omega) h g9 a).up (by omega))) (fun v σ1 e => zE_con l e zMk_19 (Nat.le_of_ble_eq_true rfl) (zEas zok0) hσ) (fun σ1 σ2 v hz e => zE_con l e zMk_100 (Nat.le_of_ble_eq_true rfl) (zEas zok0) hz)
theorem jc_20 (l : Launch) (hfl : l.stackTraces = false) {σ : zSt} {f : Nat → Int64} {B : Int} (hB : 2000 ≤ B ∧ B ≤ 500000) (hI : Inv σ B) (hσ : zoks σ) {x0 : Int} (q0 : zr x0) : ∃ (k v : Int) (σ1 σ2 : zSt) (f1 : Nat → Int64), zHCon l yL_bestReplan cL_bestReplan 4 [(0, 9, 12, 13)] [zI x0] σ f k σ1 f1 ∧ (zoks σ1 → zCon l 101 (zR 9 :: [zI x0]) σ1 (some (zI v)) σ2) ∧ σ2 9 0 = k ∧ (k = 0 → f1 0 = zl v) ∧ (0 ≤ k ∧ k ≤ 100) ∧ Inv σ2 (B + 600) := by
  obtain ⟨S, c, H, t, T, h, g, a⟩ := hI
  refine jcomb (ks := [1]) (x := zE 20 0 [some (zR 0), some (zI x0), none, none, none, none] [] σ) (yy := fun τ => zE 101 0 [some (zR 9), some (zI x0), none, none, none, none, none] [] τ) (joint h g a (by omega) (fun τ g9 => (f_bestReplan (by omega) h g9 a x0).up (by omega))) (by decide) (fun v σ1 e => hr_20 l q0 hσ e) ?_ (fun σ1 σ2 v hz e => zE_con l e zMk_101 (Nat.le_of_ble_eq_true rfl) (zEas (zok1 q0)) hz)
  intro i k σ1 hk e
  match i, hk with
  | 0, hk =>
    obtain rfl : 1 = k := by simpa using hk
    exact hx_20_0 l hfl q0 hσ e
  | i + 1, hk => simp at hk
theorem jc_22 (l : Launch) (hfl : l.stackTraces = false) {σ : zSt} {f : Nat → Int64} {B : Int} (hB : 2000 ≤ B ∧ B ≤ 500000) (hI : Inv σ B) (hσ : zoks σ) {x0 : Int} (q0 : zr x0) : ∃ (k v : Int) (σ1 σ2 : zSt) (f1 : Nat → Int64), zHCon l yL_append cL_append 4 [(0, 9, 12, 13), (0, 9, 15, 19)] [zI x0] σ f k σ1 f1 ∧ (zoks σ1 → zCon l 103 (zR 9 :: [zI x0]) σ1 (some (zI v)) σ2) ∧ σ2 9 0 = k ∧ (k = 0 → f1 0 = zl v) ∧ (0 ≤ k ∧ k ≤ 100) ∧ Inv σ2 (B + 600) := by
  obtain ⟨S, c, H, t, T, h, g, a⟩ := hI
  refine jcomb (ks := [1, 2]) (x := zE 22 0 [some (zR 0), some (zI x0)] [] σ) (yy := fun τ => zE 103 0 [some (zR 9), some (zI x0)] [] τ) (joint h g a (by omega) (fun τ g9 => (f_append h g9 a x0).up (by omega))) (by decide) (fun v σ1 e => hr_22 l q0 hσ e) ?_ (fun σ1 σ2 v hz e => zE_con l e zMk_103 (Nat.le_of_ble_eq_true rfl) (zEas (zok1 q0)) hz)
  intro i k σ1 hk e
  match i, hk with
  | 0, hk =>
    obtain rfl : 1 = k := by simpa using hk
    exact hx_22_0 l hfl q0 hσ e
  | 1, hk =>
    obtain rfl : 2 = k := by simpa using hk
    exact hx_22_1 l hfl q0 hσ e
  | i + 2, hk => simp at hk
theorem jd_23 (l : Launch) {σ : zSt} {B : Int} (hB : 2000 ≤ B ∧ B ≤ 500000) (hI : Inv σ B) (hσ : zoks σ) : ∃ (v : Int) (σ1 σ2 : zSt), zCon l 23 [zR 0] σ (some (zI v)) σ1 ∧ (zoks σ1 → zCon l 104 [zR 9] σ1 (some (zI v)) σ2) ∧ Inv σ2 (B + 600) := by
  obtain ⟨S, c, H, t, T, h, g, a⟩ := hI
  exact jdir (x := zE 23 0 [some (zR 0), none] [] σ) (yy := fun τ => zE 104 0 [some (zR 9), none] [] τ) (joint h g a (by omega) (fun τ g9 => (f_clearText h g9 a).up (by omega))) (fun v σ1 e => zE_con l e zMk_23 (Nat.le_of_ble_eq_true rfl) (zEas zok0) hσ) (fun σ1 σ2 v hz e => zE_con l e zMk_104 (Nat.le_of_ble_eq_true rfl) (zEas zok0) hz)
theorem jc_21 (l : Launch) (hfl : l.stackTraces = false) {σ : zSt} {f : Nat → Int64} {B : Int} (hB : 2000 ≤ B ∧ B ≤ 500000) (hI : Inv σ B) (hσ : zoks σ) {x0 : Int} (q0 : zr x0) : ∃ (k v : Int) (σ1 σ2 : zSt) (f1 : Nat → Int64), zHCon l yL_bestOvertime cL_bestOvertime 4 [(0, 9, 12, 13)] [zI x0] σ f k σ1 f1 ∧ (zoks σ1 → zCon l 102 (zR 9 :: [zI x0]) σ1 (some (zI v)) σ2) ∧ σ2 9 0 = k ∧ (k = 0 → f1 0 = zl v) ∧ (0 ≤ k ∧ k ≤ 100) ∧ Inv σ2 (B + 600) := by
  obtain ⟨S, c, H, t, T, h, g, a⟩ := hI
  refine jcomb (ks := [1]) (x := zE 21 0 [some (zR 0), some (zI x0), none, none, none, none, none] [] σ) (yy := fun τ => zE 102 0 [some (zR 9), some (zI x0), none, none, none, none, none] [] τ) (joint h g a (by omega) (fun τ g9 => (f_bestOvertime h g9 a x0).up (by omega))) (by decide) (fun v σ1 e => hr_21 l q0 hσ e) ?_ (fun σ1 σ2 v hz e => zE_con l e zMk_102 (Nat.le_of_ble_eq_true rfl) (zEas (zok1 q0)) hz)
  intro i k σ1 hk e
  match i, hk with
  | 0, hk =>
    obtain rfl : 1 = k := by simpa using hk
    exact hx_21_0 l hfl q0 hσ e
  | i + 1, hk => simp at hk
theorem jd_24 (l : Launch) {σ : zSt} {B : Int} (hB : 2000 ≤ B ∧ B ≤ 500000) (hI : Inv σ B) (hσ : zoks σ) : ∃ (v : Int) (σ1 σ2 : zSt), zCon l 24 [zR 0] σ (some (zI v)) σ1 ∧ (zoks σ1 → zCon l 114 [zR 9] σ1 (some (zI v)) σ2) ∧ Inv σ2 (B + 600) := by
  obtain ⟨S, c, H, t, T, h, g, a⟩ := hI
  exact jdir (x := zE 24 0 [some (zR 0), none, none, none] [] σ) (yy := fun τ => zE 114 0 [some (zR 9), none, none, none] [] τ) (joint h g a (by omega) (fun τ g9 => (f_carryOut (by omega) h g9 a).up (by omega))) (fun v σ1 e => zE_con l e zMk_24 (Nat.le_of_ble_eq_true rfl) (zEas zok0) hσ) (fun σ1 σ2 v hz e => zE_con l e zMk_114 (Nat.le_of_ble_eq_true rfl) (zEas zok0) hz)
theorem jd_26 (l : Launch) {σ : zSt} {B : Int} (hB : 2000 ≤ B ∧ B ≤ 500000) (hI : Inv σ B) (hσ : zoks σ) : ∃ (v : Int64) (σ1 σ2 : zSt), zCon l 26 [zR 0] σ (some (zL v)) σ1 ∧ (zoks σ1 → zCon l 116 [zR 9] σ1 (some (zL v)) σ2) ∧ Inv σ2 (B + 600) := by
  obtain ⟨S, c, H, t, T, h, g, a⟩ := hI
  exact jlong (x := zE 26 0 [some (zR 0), none, none, none, none] [] σ) (yy := fun τ => zE 116 0 [some (zR 9), none, none, none, none, none] [] τ) (by omega) g (fun τ g9 => f_digest (by omega) h g9 a) (fun v σ1 e => zE_con l e zMk_26 (Nat.le_of_ble_eq_true rfl) (zEas zok0) hσ) (fun σ1 σ2 v hz e => zE_con l e zMk_116 (Nat.le_of_ble_eq_true rfl) (zEas zok0) hz)
