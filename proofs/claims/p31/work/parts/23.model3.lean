/-! ===== 23: the model's fill, to its end ===== -/
def zset (σ : zSt) (k : Nat) (T : Row) : zSt := fun k' j => if k' = k then T j else σ k' j
theorem zset_at (σ : zSt) (k : Nat) (T : Row) : (zset σ k T) k = T := by funext j; simp [zset]
theorem zset_ne (σ : zSt) {k k' : Nat} (T : Row) (h : k' ≠ k) : (zset σ k T) k' = σ k' := by funext j; simp [zset, h]
theorem zset_set (σ : zSt) (k : Nat) (T T' : Row) : zset (zset σ k T) k T' = zset σ k T' := by funext k' j; by_cases h : k' = k <;> simp [zset, h]
theorem zset_self (σ : zSt) (k : Nat) : zset σ k (σ k) = σ := by funext k' j; by_cases h : k' = k <;> simp [zset, h]
def rset (S : Row) (i : Nat) (v : Int) : Row := fun k => if k = i then v else S k
theorem zup_set (σ : zSt) (k i : Nat) (v : Int) : zup σ k i v = zset σ k (rset (σ k) i v) := by
  funext k' j
  by_cases h : k' = k
  · subst h; simp [zup, zset, rset]
  · simp [zup, zset, rset, h]
/-- a row with another present start -/
def setP (S : Row) (i : Nat) (v : Int) : Row := rset S (26 + 4 * i) v
/-- the same but for plans -/
def Sta (S T : Row) : Prop := ∀ k : Nat, (k < 23 ∨ 143 ≤ k ∨ k % 4 = 3 ∨ k % 4 = 0) → T k = S k
/-- the same but for present starts -/
def StaP (S T : Row) : Prop := ∀ k : Nat, (k < 23 ∨ 143 ≤ k ∨ k % 4 ≠ 2) → T k = S k
theorem StaP.sta {S T : Row} (h : StaP S T) : Sta S T := fun k hk => h k (by omega)
theorem StaP.rf (S : Row) : StaP S S := fun _ _ => rfl
theorem StaP.trans {S T U : Row} (h : StaP S T) (h' : StaP T U) : StaP S U := fun k hk => (h' k hk).trans (h k hk)
theorem Sta.trans {S T U : Row} (h : Sta S T) (h' : Sta T U) : Sta S U := fun k hk => (h' k hk).trans (h k hk)
theorem Sta.symm {S T : Row} (h : Sta S T) : Sta T S := fun k hk => (h k hk).symm
theorem setP_sta {S : Row} {i : Nat} {v : Int} (hi : i < 30) : StaP S (setP S i v) := fun k hk => by
  unfold setP rset
  rw [if_neg (by omega)]
theorem sP_set {S : Row} {i i' : Nat} {v : Int} : sP (setP S i v) i' = if i' = i then v else sP S i' := by
  unfold sP setP rset
  by_cases h : i' = i
  · subst h; simp
  · rw [if_neg (by omega), if_neg h]
theorem Sta.k0 {S T : Row} (h : Sta S T) : T 0 = S 0 := h 0 (by omega)
theorem Sta.k1 {S T : Row} (h : Sta S T) : T 1 = S 1 := h 1 (by omega)
theorem Sta.k2 {S T : Row} (h : Sta S T) : T 2 = S 2 := h 2 (by omega)
theorem Sta.k3 {S T : Row} (h : Sta S T) : T 3 = S 3 := h 3 (by omega)
theorem Sta.k4 {S T : Row} (h : Sta S T) : T 4 = S 4 := h 4 (by omega)
theorem Sta.w {S T : Row} (h : Sta S T) {j : Nat} (hj : j < 6) : rW T j = rW S j := h _ (by omega)
theorem Sta.d {S T : Row} (h : Sta S T) {j : Nat} (hj : j < 6) : rD T j = rD S j := h _ (by omega)
theorem Sta.o {S T : Row} (h : Sta S T) {j : Nat} (hj : j < 6) : rO T j = rO S j := h _ (by omega)
theorem Sta.m {S T : Row} (h : Sta S T) (i : Nat) : sM T i = sM S i := h _ (by omega)
theorem Sta.u {S T : Row} (h : Sta S T) (i : Nat) : sU T i = sU S i := h _ (by omega)
theorem Sta.bm {S T : Row} (h : Sta S T) (b : Nat) : bM T b = bM S b := h _ (by omega)
theorem Sta.bf {S T : Row} (h : Sta S T) (b : Nat) : bF T b = bF S b := h _ (by omega)
theorem Sta.bl {S T : Row} (h : Sta S T) (b : Nat) : bL T b = bL S b := h _ (by omega)
theorem Sta.nj {S T : Row} (h : Sta S T) : nJ T = nJ S := by unfold nJ; rw [h.k1]
theorem Sta.no {S T : Row} (h : Sta S T) {j : Nat} (hj : j < 6) : nO T j = nO S j := by unfold nO; rw [h.o hj]
theorem Sta.live {S T : Row} (h : Sta S T) (hG : Good S) (j o : Nat) : Live T j o ↔ Live S j o := by
  unfold Live
  rw [h.k1]
  constructor
  · rintro ⟨a, b⟩; rw [h.o (hG.j6 a)] at b; exact ⟨a, b⟩
  · rintro ⟨a, b⟩; rw [← h.o (hG.j6 a)] at b; exact ⟨a, b⟩
theorem Sta.good {S T : Row} (h : Sta S T) (hG : Good S) : Good T := by
  refine ⟨⟨by rw [h.k0]; exact hG.1.1, by rw [h.k1]; exact hG.1.2.1, by rw [h.k2]; exact hG.1.2.2.1, by rw [h.k3]; exact hG.1.2.2.2⟩, ?_, ?_, ?_⟩
  · intro j hj
    rw [h.k1] at hj
    have hj6 := hG.j6 hj
    rw [h.w hj6, h.d hj6, h.o hj6]
    exact hG.2.1 j hj
  · intro j o hj ho
    rw [h.k1] at hj
    have hj6 := hG.j6 hj
    rw [h.o hj6] at ho
    rw [h.m, h.u]
    exact hG.2.2.1 j o hj ho
  · intro b hb
    rw [h.k2] at hb
    rw [h.bm, h.bf, h.bl]
    exact hG.2.2.2 b hb
theorem Sta.hits {S T : Row} (h : Sta S T) (i : Nat) (t : Int) : Hits T i t ↔ Hits S i t := by
  unfold Hits Hit
  simp only [h.k2, h.bm, h.bf, h.bl, h.m, h.u]
theorem Sta.lst {S T : Row} (h : Sta S T) (i : Nat) (f t : Int) : Lst T i f t ↔ Lst S i f t := by
  unfold Lst
  simp only [h.hits]
/-- a job's better start -/
noncomputable def fB (S : Row) (rule moment : Int) (j : Nat) (a : Int × Int × Int) : Int × Int × Int :=
  @ite _ (nxt S j < nO S j ∧ (a.1 = -1 ∨ er S j (nxt S j) moment < a.2.1 ∨ (er S j (nxt S j) moment = a.2.1 ∧ rk S rule j (nxt S j) < a.2.2))) (Classical.propDecidable _) ((j : Int), er S j (nxt S j) moment, rk S rule j (nxt S j)) a
noncomputable def bstO (S : Row) (rule moment : Int) : Int × Int × Int := f1 (fB S rule moment) (nJ S) (-1, 0, 0)
noncomputable def fillM (rule moment : Int) (n : Nat) (S : Row) : Row := match n with
  | 0 => S
  | n + 1 => if (bstO S rule moment).1 = -1 then S else fillM rule moment n (setP S (5 * (bstO S rule moment).1.toNat + nxt S (bstO S rule moment).1.toNat) (bstO S rule moment).2.1)
/-- the one that is chosen is a job with an operation to come, and its least start -/
def Bst (S : Row) (rule moment : Int) (n : Nat) (a : Int × Int × Int) : Prop := a.1 = -1 ∨ ∃ j : Nat, j < n ∧ a.1 = (j : Int) ∧ nxt S j < nO S j ∧ a.2.1 = er S j (nxt S j) moment ∧ a.2.2 = rk S rule j (nxt S j)
theorem fB_bst {S : Row} {rule moment : Int} {j : Nat} {a : Int × Int × Int} (h : Bst S rule moment j a) : Bst S rule moment (j + 1) (fB S rule moment j a) := by
  unfold fB
  by_cases hc : nxt S j < nO S j ∧ (a.1 = -1 ∨ er S j (nxt S j) moment < a.2.1 ∨ (er S j (nxt S j) moment = a.2.1 ∧ rk S rule j (nxt S j) < a.2.2))
  · rw [if_pos hc]
    exact Or.inr ⟨j, by omega, rfl, hc.1, rfl, rfl⟩
  · rw [if_neg hc]
    rcases h with h | ⟨j', h1, h2⟩
    · exact Or.inl h
    · exact Or.inr ⟨j', by omega, h2⟩
theorem f1_bst {S : Row} {rule moment : Int} (n : Nat) : Bst S rule moment n (f1 (fB S rule moment) n (-1, 0, 0)) := by
  induction n with
  | zero => exact Or.inl rfl
  | succ n ih => exact fB_bst ih
theorem bstO_bst (S : Row) (rule moment : Int) : Bst S rule moment (nJ S) (bstO S rule moment) := f1_bst _
/-- how many operations have no start -/
def cnt (S : Row) : Nat := fA S (fun j o a => if sP S (5 * j + o) = -1 then a + 1 else a) 0
theorem cnt_le {S : Row} (hG : Good S) : cnt S ≤ 30 := by
  have h := fJ_ind (no := nO S) (f := fun j o a => if sP S (5 * j + o) = -1 then a + 1 else a) (nJ S) 0 (fun j o a => a ≤ 5 * j + o) (by omega) (fun j o a _ _ h => by split <;> omega) (fun j a hj h => by
    have h1 := (hG.2.1 j (nJ_lt.mp hj)).2.2
    have h2 : nO S j ≤ 5 := by unfold nO; omega
    omega)
  have h1 := hG.1.2.1
  have h2 : nJ S ≤ 6 := by unfold nJ; omega
  unfold cnt fA
  omega
theorem cnt_0 {S : Row} (h : cnt S = 0) : ∀ j, j < nJ S → nxt S j = nO S j := by
  have key := fJ_ind (no := nO S) (f := fun j o a => if sP S (5 * j + o) = -1 then a + 1 else a) (nJ S) 0 (fun j o a => a = 0 → ∀ j' o', Bef (nO S) j o j' o' → sP S (5 * j' + o') ≠ -1) (fun _ j' o' q => by have := q.2; omega)
    (fun j o a hj ho ih h0 j' o' hb => by
      by_cases c : sP S (5 * j + o) = -1
      · rw [if_pos c] at h0; omega
      · rw [if_neg c] at h0
        by_cases e : j' = j ∧ o' = o
        · rw [e.1, e.2]; exact c
        · exact ih h0 j' o' ⟨hb.1, by have := hb.2; omega⟩)
    (fun j a hj ih h0 j' o' hb => ih h0 j' o' ⟨hb.1, by
      have h1 := hb.1; have h2 := hb.2
      by_cases e : j' = j
      · subst e; exact Or.inr ⟨rfl, h1⟩
      · exact Or.inl (by omega)⟩)
  intro j hj
  exact nxt_eq ⟨Nat.le_refl _, fun o ho => key h j o ⟨ho, Or.inl hj⟩, fun q => by omega⟩
theorem cnt_set {S : Row} (hG : Good S) {j o : Nat} (hl : Live S j o) (h1 : sP S (5 * j + o) = -1) {v : Int} (hv : v ≠ -1) : cnt (setP S (5 * j + o) v) + 1 = cnt S := by
  have hj := hG.j6 hl.1
  have ho := hG.o5 hl
  have st := (setP_sta (S := S) (v := v) (show 5 * j + o < 30 by omega)).sta
  have hoN := nO_lt.mpr hl.2
  have hjN := nJ_lt.mpr hl.1
  have key := fJ_rel (no := nO S) (f := fun j' o' a => if sP (setP S (5 * j + o) v) (5 * j' + o') = -1 then a + 1 else a) (g := fun j o a => if sP S (5 * j + o) = -1 then a + 1 else a) (nJ S) 0 0 (fun j' o' a b => a + (if j < j' ∨ (j = j' ∧ o < o') then 1 else 0) = b) (by
      rw [if_neg (by omega)])
    (fun j' o' a b hj' ho' ih => by
      have hl' := liveN hj' ho'
      have ho5 := hG.o5 hl'
      rw [sP_set]
      by_cases e : 5 * j' + o' = 5 * j + o
      · have e1 : j' = j := by omega
        have e2 : o' = o := by omega
        subst e1; subst e2
        rw [if_pos rfl, if_neg hv, if_pos h1, if_pos (by omega)]
        rw [if_neg (by omega)] at ih
        omega
      · rw [if_neg e]
        have e3 : (j < j' ∨ (j = j' ∧ o < o' + 1)) ↔ (j < j' ∨ (j = j' ∧ o < o')) := by omega
        simp only [e3]
        by_cases c : sP S (5 * j' + o') = -1
        · rw [if_pos c, if_pos c]; omega
        · rw [if_neg c, if_neg c]; exact ih)
    (fun j' a b hj' ih => by
      have e3 : (j < j' + 1 ∨ (j = j' + 1 ∧ o < 0)) ↔ (j < j' ∨ (j = j' ∧ o < nO S j')) := by
        constructor
        · intro q
          by_cases e : j = j'
          · subst e; exact Or.inr ⟨rfl, hoN⟩
          · exact Or.inl (by omega)
        · omega
      simp only [e3]
      exact ih)
  rw [if_pos (Or.inl hjN)] at key
  unfold cnt fA
  rw [st.nj]
  rw [fJ_congr (no' := nO S) (g := fun j' o' a => if sP (setP S (5 * j + o) v) (5 * j' + o') = -1 then a + 1 else a) (nJ S) 0 (fun j' hj' => st.no (hG.j6 (nJ_lt.mp hj'))) (fun _ _ _ _ _ => rfl)]
  exact key
theorem f1_none {S : Row} {rule moment : Int} (h : ∀ j, j < nJ S → nxt S j = nO S j) : (bstO S rule moment).1 = -1 := by
  have : ∀ n, n ≤ nJ S → (f1 (fB S rule moment) n (-1, 0, 0)) = (-1, 0, 0) := by
    intro n
    induction n with
    | zero => intro _; rfl
    | succ n ih =>
      intro hn
      show fB S rule moment n (f1 (fB S rule moment) n (-1, 0, 0)) = _
      rw [ih (by omega)]
      unfold fB
      rw [if_neg (fun q => by have := h n (by omega); omega)]
  unfold bstO
  rw [this _ (Nat.le_refl _)]
