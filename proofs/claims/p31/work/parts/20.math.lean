/-! ===== 20: the workshop as numbers: a row of a state, hits, least starts, folds ===== -/
/-- a row of a state, as the model keeps it -/
abbrev Row : Type := Nat → Int
def rW (S : Row) (j : Nat) : Int := S (5 + 3 * j)
def rD (S : Row) (j : Nat) : Int := S (6 + 3 * j)
def rO (S : Row) (j : Nat) : Int := S (7 + 3 * j)
/-- slot 5 * j + o: machine, duration, start in the old plan, in the present one -/
def sM (S : Row) (i : Nat) : Int := S (23 + 4 * i)
def sU (S : Row) (i : Nat) : Int := S (24 + 4 * i)
def sL (S : Row) (i : Nat) : Int := S (25 + 4 * i)
def sP (S : Row) (i : Nat) : Int := S (26 + 4 * i)
def bM (S : Row) (b : Nat) : Int := S (143 + 3 * b)
def bF (S : Row) (b : Nat) : Int := S (144 + 3 * b)
def bL (S : Row) (b : Nat) : Int := S (145 + 3 * b)
/-- what always holds of a row -/
def Good (S : Row) : Prop := ((2 ≤ S 0 ∧ S 0 ≤ 5) ∧ (0 ≤ S 1 ∧ S 1 ≤ 6) ∧ (0 ≤ S 2 ∧ S 2 ≤ 6) ∧ (S 3 = 0 ∨ S 3 = 1)) ∧
  (∀ j : Nat, (j : Int) < S 1 → (1 ≤ rW S j ∧ rW S j ≤ 9) ∧ (0 ≤ rD S j ∧ rD S j ≤ 999) ∧ 0 ≤ rO S j ∧ rO S j ≤ 5) ∧
  (∀ j o : Nat, (j : Int) < S 1 → (o : Int) < rO S j → (0 ≤ sM S (5 * j + o) ∧ sM S (5 * j + o) < 5) ∧ 1 ≤ sU S (5 * j + o) ∧ sU S (5 * j + o) ≤ 20) ∧
  (∀ b : Nat, (b : Int) < S 2 → (0 ≤ bM S b ∧ bM S b < 5) ∧ (0 ≤ bF S b ∧ bF S b ≤ 500) ∧ 1 ≤ bL S b ∧ bL S b ≤ 50)
def Live (S : Row) (j o : Nat) : Prop := (j : Int) < S 1 ∧ (o : Int) < rO S j
theorem Good.j6 {S : Row} (h : Good S) {j : Nat} (hj : (j : Int) < S 1) : j < 6 := by
  have := h.1.2.1; omega
theorem Good.o5 {S : Row} (h : Good S) {j o : Nat} (hl : Live S j o) : o < 5 := by
  have := (h.2.1 j hl.1).2.2; have := hl.2; omega
theorem Good.b6 {S : Row} (h : Good S) {b : Nat} (hb : (b : Int) < S 2) : b < 6 := by
  have := h.1.2.2.1; omega
def Hit (S : Row) (i : Nat) (t : Int) (b : Nat) : Prop := bM S b = sM S i ∧ t < bF S b + bL S b ∧ bF S b < t + sU S i
def Hits (S : Row) (i : Nat) (t : Int) : Prop := ∃ b : Nat, (b : Int) < S 2 ∧ Hit S i t b
/-- t is the least start from f on that hits nothing -/
def Lst (S : Row) (i : Nat) (f t : Int) : Prop := f ≤ t ∧ ¬ Hits S i t ∧ ∀ u : Int, f ≤ u → u < t → Hits S i u
theorem Lst.uniq {S : Row} {i : Nat} {f t t' : Int} (h : Lst S i f t) (h' : Lst S i f t') : t = t' := by
  rcases Int.lt_trichotomy t t' with q | q | q
  · exact absurd (h'.2.2 t h.1 q) h.2.1
  · exact q
  · exact absurd (h.2.2 t' h'.1 q) h'.2.1
/-- the least start, as a number -/
noncomputable def LstF (S : Row) (i : Nat) (f : Int) : Int := @dite _ (∃ t, Lst S i f t) (Classical.propDecidable _) (fun h => Classical.choose h) (fun _ => f)
theorem LstF_eq {S : Row} {i : Nat} {f t : Int} (h : Lst S i f t) : LstF S i f = t := by
  unfold LstF
  have hx : ∃ t, Lst S i f t := ⟨t, h⟩
  rw [dif_pos hx]
  exact (Classical.choose_spec hx).uniq h
/-- a hit pushes to the breakdown's end: all between hits too -/
theorem Hit.push {S : Row} {i b : Nat} {s : Int} (h : Hit S i s b) (hb : (b : Int) < S 2) : ∀ u : Int, s ≤ u → u < bF S b + bL S b → Hits S i u := fun u h1 h2 => ⟨b, hb, h.1, h2, by have := h.2.2; omega⟩
/-- the greatest of b and the numbers with P -/
def Mx (b : Int) (P : Int → Prop) (m : Int) : Prop := b ≤ m ∧ (∀ t, P t → t ≤ m) ∧ (m = b ∨ P m)
theorem Mx.uniq {b : Int} {P : Int → Prop} {m m' : Int} (h : Mx b P m) (h' : Mx b P m') : m = m' := by
  have h1 : m ≤ m' := by
    rcases h.2.2 with q | q
    · rw [q]; exact h'.1
    · exact h'.2.1 _ q
  have h2 : m' ≤ m := by
    rcases h'.2.2 with q | q
    · rw [q]; exact h.1
    · exact h.2.1 _ q
  omega
theorem Mx.congr {b : Int} {P P' : Int → Prop} {m : Int} (h : Mx b P m) (e : ∀ t, P t ↔ P' t) : Mx b P' m := ⟨h.1, fun t q => h.2.1 t ((e t).mpr q), h.2.2.imp id (fun q => (e m).mp q)⟩
theorem Mx.nil {b : Int} {P : Int → Prop} (h : ∀ t, ¬ P t) : Mx b P b := ⟨Int.le_refl _, fun t q => absurd q (h t), Or.inl rfl⟩
theorem Mx.add {b : Int} {P : Int → Prop} {m t : Int} (h : Mx b P m) : Mx b (fun x => P x ∨ x = t) (max m t) := by
  refine ⟨by have := h.1; omega, fun x q => ?_, ?_⟩
  · rcases q with q | q
    · have := h.2.1 x q; omega
    · omega
  · by_cases hc : m < t
    · exact Or.inr (Or.inr (by omega))
    · rcases h.2.2 with q | q
      · exact Or.inl (by omega)
      · refine Or.inr (Or.inl ?_)
        rw [show max m t = m by omega]; exact q
theorem Mx.base {b b' : Int} {P : Int → Prop} {m : Int} (h : Mx b P m) (hb : b ≤ b') : Mx b' P (max b' m) := by
  refine ⟨by omega, fun x q => by have := h.2.1 x q; omega, ?_⟩
  by_cases hc : b' < m
  · rcases h.2.2 with q | q
    · exact Or.inl (by omega)
    · refine Or.inr ?_
      rw [show max b' m = m by omega]; exact q
  · exact Or.inl (by omega)
/-! folds over jobs and operations -/
def fO {α : Type} (f : Nat → Nat → α → α) (j : Nat) : Nat → α → α
  | 0, a => a
  | o + 1, a => f j o (fO f j o a)
def fJ {α : Type} (no : Nat → Nat) (f : Nat → Nat → α → α) : Nat → α → α
  | 0, a => a
  | j + 1, a => fO f j (no j) (fJ no f j a)
/-- the number of jobs, of a job's operations -/
def nJ (S : Row) : Nat := (S 1).toNat
def nO (S : Row) (j : Nat) : Nat := (rO S j).toNat
def fA {α : Type} (S : Row) (f : Nat → Nat → α → α) (a : α) : α := fJ (nO S) f (nJ S) a
def f1 {α : Type} (f : Nat → α → α) : Nat → α → α
  | 0, a => a
  | j + 1, a => f j (f1 f j a)
/-- a loop, and in it another one, with states at the heads -/
theorem zloop2 {α D E R : Type} (n : Nat) (no : Nat → Nat) (f : Nat → Nat → α → α) (H : Nat → α → D → R) (I : Nat → Nat → α → E → R) (fin : α → R) (Inv : Nat → Nat → α → Prop)
    (h0 : ∀ j a d, j < n → Inv j 0 a → ∃ e, H j a d = I j 0 a e)
    (h1 : ∀ j o a e, j < n → o < no j → Inv j o a → (∃ e', I j o a e = I j (o + 1) (f j o a) e') ∧ Inv j (o + 1) (f j o a))
    (h2 : ∀ j a e, j < n → Inv j (no j) a → (∃ d, I j (no j) a e = H (j + 1) a d) ∧ Inv (j + 1) 0 a)
    (h3 : ∀ a d, Inv n 0 a → H n a d = fin a) : ∀ a d, Inv 0 0 a → H 0 a d = fin (fJ no f n a) ∧ Inv n 0 (fJ no f n a) := by
  have inner : ∀ (j : Nat), j < n → ∀ (a : α) (e : E), Inv j 0 a → ∀ o, o ≤ no j → (∃ e', I j 0 a e = I j o (fO f j o a) e') ∧ Inv j o (fO f j o a) := by
    intro j hj a e hi o
    induction o with
    | zero => intro _; exact ⟨⟨e, rfl⟩, hi⟩
    | succ o ih =>
      intro ho
      obtain ⟨⟨e1, q1⟩, q2⟩ := ih (by omega)
      obtain ⟨⟨e2, q3⟩, q4⟩ := h1 j o _ e1 hj (by omega) q2
      exact ⟨⟨e2, q1.trans q3⟩, q4⟩
  have outer : ∀ (a : α) (d : D), Inv 0 0 a → ∀ j, j ≤ n → (∃ d', H 0 a d = H j (fJ no f j a) d') ∧ Inv j 0 (fJ no f j a) := by
    intro a d hi j
    induction j with
    | zero => intro _; exact ⟨⟨d, rfl⟩, hi⟩
    | succ j ih =>
      intro hj
      obtain ⟨⟨d1, q1⟩, q2⟩ := ih (by omega)
      obtain ⟨e1, q3⟩ := h0 j _ d1 (by omega) q2
      obtain ⟨⟨e2, q4⟩, q5⟩ := inner j (by omega) _ e1 q2 (no j) (Nat.le_refl _)
      obtain ⟨⟨d2, q6⟩, q7⟩ := h2 j _ e2 (by omega) q5
      exact ⟨⟨d2, q1.trans (q3.trans (q4.trans q6))⟩, q7⟩
  intro a d hi
  obtain ⟨⟨d', q1⟩, q2⟩ := outer a d hi n (Nat.le_refl _)
  exact ⟨q1.trans (h3 _ d' q2), q2⟩
theorem zloop1 {α D R : Type} (n : Nat) (f : Nat → α → α) (H : Nat → α → D → R) (fin : α → R) (Inv : Nat → α → Prop)
    (h1 : ∀ j a d, j < n → Inv j a → (∃ d', H j a d = H (j + 1) (f j a) d') ∧ Inv (j + 1) (f j a))
    (h3 : ∀ a d, Inv n a → H n a d = fin a) : ∀ a d, Inv 0 a → H 0 a d = fin (f1 f n a) ∧ Inv n (f1 f n a) := by
  have outer : ∀ (a : α) (d : D), Inv 0 a → ∀ j, j ≤ n → (∃ d', H 0 a d = H j (f1 f j a) d') ∧ Inv j (f1 f j a) := by
    intro a d hi j
    induction j with
    | zero => intro _; exact ⟨⟨d, rfl⟩, hi⟩
    | succ j ih =>
      intro hj
      obtain ⟨⟨d1, q1⟩, q2⟩ := ih (by omega)
      obtain ⟨⟨d2, q3⟩, q4⟩ := h1 j _ d1 (by omega) q2
      exact ⟨⟨d2, q1.trans q3⟩, q4⟩
  intro a d hi
  obtain ⟨⟨d', q1⟩, q2⟩ := outer a d hi n (Nat.le_refl _)
  exact ⟨q1.trans (h3 _ d' q2), q2⟩
theorem fO_congr {α : Type} {f g : Nat → Nat → α → α} {j : Nat} : ∀ (n : Nat) (a : α), (∀ o a, o < n → f j o a = g j o a) → fO f j n a = fO g j n a
  | 0, a, _ => rfl
  | n + 1, a, h => by
    show f j n (fO f j n a) = g j n (fO g j n a)
    rw [fO_congr n a (fun o a ho => h o a (by omega)), h n _ (by omega)]
theorem fJ_congr {α : Type} {no no' : Nat → Nat} {f g : Nat → Nat → α → α} : ∀ (n : Nat) (a : α), (∀ j, j < n → no j = no' j) → (∀ j o a, j < n → o < no j → f j o a = g j o a) → fJ no f n a = fJ no' g n a
  | 0, a, _, _ => rfl
  | n + 1, a, h1, h2 => by
    show fO f n (no n) (fJ no f n a) = fO g n (no' n) (fJ no' g n a)
    rw [fJ_congr n a (fun j hj => h1 j (by omega)) (fun j o a hj ho => h2 j o a (by omega) ho), h1 n (by omega)]
    exact fO_congr _ _ (fun o a ho => h2 n o a (by omega) (by rw [h1 n (by omega)]; exact ho))
/-- what holds at first, and is kept, holds at the end -/
theorem fJ_ind {α : Type} {no : Nat → Nat} {f : Nat → Nat → α → α} (n : Nat) (a : α) (P : Nat → Nat → α → Prop) (h0 : P 0 0 a) (h1 : ∀ j o a, j < n → o < no j → P j o a → P j (o + 1) (f j o a)) (h2 : ∀ j a, j < n → P j (no j) a → P (j + 1) 0 a) : P n 0 (fJ no f n a) :=
  (zloop2 (D := Unit) (E := Unit) (R := Unit) n no f (fun _ _ _ => ()) (fun _ _ _ _ => ()) (fun _ => ()) P (fun _ _ _ _ _ => ⟨(), rfl⟩) (fun j o a _ hj ho h => ⟨⟨(), rfl⟩, h1 j o a hj ho h⟩) (fun j a _ hj h => ⟨⟨(), rfl⟩, h2 j a hj h⟩) (fun _ _ _ => rfl) a () h0).2
/-- a fold of a greatest: over what was seen up to (j, o) -/
def Bef (no : Nat → Nat) (j o j' o' : Nat) : Prop := o' < no j' ∧ (j' < j ∨ (j' = j ∧ o' < o))
theorem fJ_max {no : Nat → Nat} {n : Nat} {b : Int} {f : Nat → Nat → Int → Int} {Q : Nat → Nat → Prop} {e : Nat → Nat → Int} (hf : ∀ j o a, j < n → o < no j → (Q j o → f j o a = max a (e j o)) ∧ (¬ Q j o → f j o a = a)) :
    Mx b (fun t => ∃ j o, j < n ∧ o < no j ∧ Q j o ∧ t = e j o) (fJ no f n b) := by
  have key := fJ_ind (no := no) (f := f) n b (fun j o a => Mx b (fun t => ∃ j' o', j' < n ∧ Bef no j o j' o' ∧ Q j' o' ∧ t = e j' o') a) ?_ ?_ ?_
  · exact key.congr (fun t => ⟨fun ⟨j', o', h1, h2, h3⟩ => ⟨j', o', h1, h2.1, h3⟩, fun ⟨j', o', h1, h2, h3⟩ => ⟨j', o', h1, ⟨h2, Or.inl h1⟩, h3⟩⟩)
  · exact Mx.nil (fun t ⟨j', o', _, ⟨_, h⟩, _⟩ => by omega)
  · intro j o a hj ho h
    obtain ⟨g1, g2⟩ := hf j o a hj ho
    by_cases hq : Q j o
    · rw [g1 hq]
      refine (h.add (t := e j o)).congr (fun t => ⟨?_, ?_⟩)
      · rintro (⟨j', o', q1, ⟨q2, q3⟩, q4⟩ | q)
        · exact ⟨j', o', q1, ⟨q2, by omega⟩, q4⟩
        · exact ⟨j, o, hj, ⟨ho, by omega⟩, hq, q⟩
      · rintro ⟨j', o', q1, ⟨q2, q3⟩, q4⟩
        by_cases hc : j' = j ∧ o' = o
        · obtain ⟨rfl, rfl⟩ := hc; exact Or.inr q4.2
        · exact Or.inl ⟨j', o', q1, ⟨q2, by omega⟩, q4⟩
    · rw [g2 hq]
      refine h.congr (fun t => ⟨?_, ?_⟩)
      · rintro ⟨j', o', q1, ⟨q2, q3⟩, q4⟩
        exact ⟨j', o', q1, ⟨q2, by omega⟩, q4⟩
      · rintro ⟨j', o', q1, ⟨q2, q3⟩, q4⟩
        by_cases hc : j' = j ∧ o' = o
        · obtain ⟨rfl, rfl⟩ := hc; exact absurd q4.1 hq
        · exact ⟨j', o', q1, ⟨q2, by omega⟩, q4⟩
  · intro j a hj h
    refine h.congr (fun t => ⟨?_, ?_⟩)
    · rintro ⟨j', o', q1, ⟨q2, q3⟩, q4⟩
      exact ⟨j', o', q1, ⟨q2, by omega⟩, q4⟩
    · rintro ⟨j', o', q1, ⟨q2, q3⟩, q4⟩
      refine ⟨j', o', q1, ⟨q2, ?_⟩, q4⟩
      by_cases hc : j' = j
      · subst hc; exact Or.inr ⟨rfl, q2⟩
      · exact Or.inl (by omega)
