/-! ===== 22: the model's fill ===== -/
theorem nJ_lt {S : Row} {j : Nat} : j < nJ S ↔ (j : Int) < S 1 := by unfold nJ; omega
theorem nO_lt {S : Row} {j o : Nat} : o < nO S j ↔ (o : Int) < rO S j := by unfold nO; omega
theorem liveN {S : Row} {j o : Nat} (hj : j < nJ S) (ho : o < nO S j) : Live S j o := ⟨nJ_lt.mp hj, nO_lt.mp ho⟩
theorem fJ_rel {α β : Type} {no : Nat → Nat} {f : Nat → Nat → α → α} {g : Nat → Nat → β → β} (n : Nat) (a : α) (b : β) (P : Nat → Nat → α → β → Prop) (h0 : P 0 0 a b) (h1 : ∀ j o a b, j < n → o < no j → P j o a b → P j (o + 1) (f j o a) (g j o b)) (h2 : ∀ j a b, j < n → P j (no j) a b → P (j + 1) 0 a b) : P n 0 (fJ no f n a) (fJ no g n b) := by
  have inner : ∀ j, j < n → ∀ a b, P j 0 a b → ∀ o, o ≤ no j → P j o (fO f j o a) (fO g j o b) := by
    intro j hj a b hi o
    induction o with
    | zero => intro _; exact hi
    | succ o ih => intro ho; exact h1 j o _ _ hj (by omega) (ih (by omega))
  have outer : ∀ j, j ≤ n → P j 0 (fJ no f j a) (fJ no g j b) := by
    intro j
    induction j with
    | zero => intro _; exact h0
    | succ j ih => intro hj; exact h2 j _ _ (by omega) (inner j (by omega) _ _ (ih (by omega)) (no j) (Nat.le_refl _))
  exact outer n (Nat.le_refl _)
/-- the present starts are within bounds -/
def PB (S : Row) (B : Int) : Prop := ∀ j o, Live S j o → -1 ≤ sP S (5 * j + o) ∧ sP S (5 * j + o) ≤ B
/-- over the operations on the machine of slot i that have a start -/
def fE (S : Row) (i : Nat) (j o : Nat) (a : Int) : Int := if sM S (5 * j + o) = sM S i ∧ sP S (5 * j + o) ≠ -1 then max a (sP S (5 * j + o) + sU S (5 * j + o)) else a
def bse (S : Row) (j o : Nat) (moment : Int) : Int := fA S (fE S (5 * j + o)) (if o = 0 then moment else max moment (sP S (5 * j + (o - 1)) + sU S (5 * j + (o - 1))))
noncomputable def er (S : Row) (j o : Nat) (moment : Int) : Int := LstF S (5 * j + o) (bse S j o moment)
/-- what the base is the greatest of -/
theorem bse_mx {S : Row} {j o : Nat} {moment : Int} : Mx (if o = 0 then moment else max moment (sP S (5 * j + (o - 1)) + sU S (5 * j + (o - 1)))) (fun t => ∃ j' o', j' < nJ S ∧ o' < nO S j' ∧ (sM S (5 * j' + o') = sM S (5 * j + o) ∧ sP S (5 * j' + o') ≠ -1) ∧ t = sP S (5 * j' + o') + sU S (5 * j' + o')) (bse S j o moment) := by
  unfold bse fA
  refine fJ_max (fun j' o' a _ _ => ⟨fun h => ?_, fun h => ?_⟩)
  · unfold fE; rw [if_pos h]
  · unfold fE; rw [if_neg h]
theorem bse_le {S : Row} {B : Int} (hG : Good S) (hB : PB S B) {j o : Nat} (hl : Live S j o) {moment : Int} : moment ≤ bse S j o moment ∧ bse S j o moment ≤ max moment (B + 20) := by
  have h := bse_mx (S := S) (j := j) (o := o) (moment := moment)
  have h0 : moment ≤ (if o = 0 then moment else max moment (sP S (5 * j + (o - 1)) + sU S (5 * j + (o - 1)))) ∧ (if o = 0 then moment else max moment (sP S (5 * j + (o - 1)) + sU S (5 * j + (o - 1)))) ≤ max moment (B + 20) := by
    by_cases ho : o = 0
    · rw [if_pos ho]; omega
    · rw [if_neg ho]
      have hl2 : Live S j (o - 1) := ⟨hl.1, by have := hl.2; omega⟩
      have h1 := hB j (o - 1) hl2
      have h2 := (hG.2.2.1 j (o - 1) hl2.1 hl2.2).2
      omega
  refine ⟨by have := h.1; omega, ?_⟩
  rcases h.2.2 with q | ⟨j', o', q1, q2, q3, q4⟩
  · rw [q]; exact h0.2
  · rw [q4]
    have hl2 := liveN q1 q2
    have h1 := hB j' o' hl2
    have h2 := (hG.2.2.1 j' o' hl2.1 hl2.2).2
    omega
/-- the first operation of a job without a start -/
def nxA (S : Row) (j : Nat) : Nat → Nat → Nat
  | 0, o => o
  | d + 1, o => if sP S (5 * j + o) = -1 then o else nxA S j d (o + 1)
def nxt (S : Row) (j : Nat) : Nat := nxA S j (nO S j) 0
def Nx (S : Row) (j k : Nat) : Prop := k ≤ nO S j ∧ (∀ o, o < k → sP S (5 * j + o) ≠ -1) ∧ (k < nO S j → sP S (5 * j + k) = -1)
theorem nxA_nx {S : Row} {j : Nat} : ∀ (d o : Nat), o + d = nO S j → (∀ o', o' < o → sP S (5 * j + o') ≠ -1) → Nx S j (nxA S j d o)
  | 0, o, h, h1 => ⟨by show o ≤ _; omega, h1, fun q => absurd q (by show ¬ o < _; omega)⟩
  | d + 1, o, h, h1 => by
    unfold nxA
    by_cases c : sP S (5 * j + o) = -1
    · rw [if_pos c]; exact ⟨by omega, h1, fun _ => c⟩
    · rw [if_neg c]
      exact nxA_nx d (o + 1) (by omega) (fun o' ho' => by
        by_cases e : o' = o
        · rw [e]; exact c
        · exact h1 o' (by omega))
theorem nxt_nx (S : Row) (j : Nat) : Nx S j (nxt S j) := nxA_nx _ _ (by omega) (fun _ h => by omega)
theorem Nx.uniq {S : Row} {j k k' : Nat} (h : Nx S j k) (h' : Nx S j k') : k = k' := by
  rcases Nat.lt_trichotomy k k' with q | q | q
  · exact absurd (h.2.2 (by have := h'.1; omega)) (h'.2.1 k q)
  · exact q
  · exact absurd (h'.2.2 (by have := h.1; omega)) (h.2.1 k' q)
theorem nxt_eq {S : Row} {j k : Nat} (h : Nx S j k) : nxt S j = k := (nxt_nx S j).uniq h
/-- what a rule looks at -/
def rk (S : Row) (rule : Int) (j o : Nat) : Int := if rule = 0 then sU S (5 * j + o) else if rule = 1 then rD S j else if rule = 2 then -(rW S j) else rO S j - o
