/-! ===== 32: the model's shifting comes to the one plan that holds the equation ===== -/
def fS (T : Row) (j o : Nat) (j' o' : Nat) (a : Int) : Int := if (j' = j ∧ o' + 1 = o) ∨ (sM T (5 * j' + o') = sM T (5 * j + o) ∧ sL T (5 * j' + o') < sL T (5 * j + o)) then max a (sP T (5 * j' + o') + sU T (5 * j' + o')) else a
def sbm (T : Row) (j o : Nat) : Int := fA T (fS T j o) (sL T (5 * j + o))
noncomputable def shv (T : Row) (j o : Nat) : Int := LstF T (5 * j + o) (sbm T j o)
theorem sbm_mx {T : Row} {j o : Nat} : Mx (sL T (5 * j + o)) (ShP T (fun j o => sP T (5 * j + o)) j o) (sbm T j o) := by
  unfold sbm fA ShP
  refine fJ_max (Q := fun j' o' => (j' = j ∧ o' + 1 = o) ∨ (sM T (5 * j' + o') = sM T (5 * j + o) ∧ sL T (5 * j' + o') < sL T (5 * j + o))) (e := fun j' o' => sP T (5 * j' + o') + sU T (5 * j' + o')) (fun j' o' a _ _ => ⟨fun h => ?_, fun h => ?_⟩)
  · unfold fS; rw [if_pos h]
  · unfold fS; rw [if_neg h]
theorem Lst.mono {S : Row} {i : Nat} {f f' t t' : Int} (h : Lst S i f t) (h' : Lst S i f' t') (hf : f ≤ f') : t ≤ t' := by
  refine Decidable.byContradiction (fun hc => ?_)
  exact h'.2.1 (h.2.2 t' (by have := h'.1; omega) (by omega))
theorem ShAt.mono {S : Row} {q q' : Nat → Nat → Int} {j o : Nat} {v v' : Int} (h : ShAt S q j o v) (h' : ShAt S q' j o v') (hq : ∀ j' o', Live S j' o' → ((j' = j ∧ o' + 1 = o) ∨ (sM S (5 * j' + o') = sM S (5 * j + o) ∧ sL S (5 * j' + o') < sL S (5 * j + o))) → q j' o' ≤ q' j' o') : v ≤ v' := by
  obtain ⟨m, h1, h2⟩ := h
  obtain ⟨m', h3, h4⟩ := h'
  refine h2.mono h4 ?_
  rcases h1.2.2 with e | ⟨j', o', q1, q2, q3, q4⟩
  · rw [e]; exact h3.1
  · have := hq j' o' (liveN q1 q2) q3
    have := h3.2.1 _ ⟨j', o', q1, q2, q3, rfl⟩
    omega
theorem ShEq.uniq {S : Row} {B : Int} (hV : VO S B) {q q' : Nat → Nat → Int} (h : ShEq S q) (h' : ShEq S q') : ∀ j o, Live S j o → q j o = q' j o := by
  have key : ∀ (n : Nat) j o, Live S j o → (sL S (5 * j + o)).toNat ≤ n → q j o = q' j o := by
    intro n
    induction n using Nat.strongRecOn with
    | _ n ih =>
      intro j o hl hn
      have deps : ∀ j' o', Live S j' o' → ((j' = j ∧ o' + 1 = o) ∨ (sM S (5 * j' + o') = sM S (5 * j + o) ∧ sL S (5 * j' + o') < sL S (5 * j + o))) → q j' o' = q' j' o' := by
        intro j' o' hl' hd
        have hlt : sL S (5 * j' + o') < sL S (5 * j + o) := by
          rcases hd with ⟨rfl, rfl⟩ | ⟨_, hd⟩
          · exact hV.2.1 j' o' hl
          · exact hd
        have h0 := (hV.1 j' o' hl').1
        exact ih (sL S (5 * j' + o')).toNat (by omega) j' o' hl' (Nat.le_refl _)
      have h1 := (h j o hl).mono (h' j o hl) (fun j' o' hl' hd => Int.le_of_eq (deps j' o' hl' hd))
      have h2 := (h' j o hl).mono (h j o hl) (fun j' o' hl' hd => Int.le_of_eq (deps j' o' hl' hd).symm)
      omega
  intro j o hl
  exact key _ j o hl (Nat.le_refl _)
theorem ShP_sta {S T : Row} (hG : Good S) (stP : StaP S T) {q : Nat → Nat → Int} {j o : Nat} {t : Int} : ShP T q j o t ↔ ShP S q j o t := by
  have st := stP.sta
  have hL : ∀ i, sL T i = sL S i := fun i => stP _ (by omega)
  constructor
  · rintro ⟨j', o', q1, q2, q3, q4⟩
    rw [st.nj] at q1
    rw [st.no (hG.j6 (nJ_lt.mp q1))] at q2
    rw [st.m, st.m, hL, hL] at q3
    rw [st.u] at q4
    exact ⟨j', o', q1, q2, q3, q4⟩
  · rintro ⟨j', o', q1, q2, q3, q4⟩
    exact ⟨j', o', by rw [st.nj]; exact q1, by rw [st.no (hG.j6 (nJ_lt.mp q1))]; exact q2, by rw [st.m, st.m, hL, hL]; exact q3, by rw [st.u]; exact q4⟩
theorem ShAt_sta {S T : Row} (hG : Good S) (stP : StaP S T) {q : Nat → Nat → Int} {j o : Nat} {v : Int} (h : ShAt T q j o v) : ShAt S q j o v := by
  obtain ⟨m, h1, h2⟩ := h
  have hL : sL T (5 * j + o) = sL S (5 * j + o) := stP _ (by omega)
  rw [hL] at h1
  exact ⟨m, h1.congr (fun t => ShP_sta hG stP), (stP.sta.lst _ _ _).mp h2⟩
/-- one pass over the operations -/
noncomputable def pS (j o : Nat) (a : Int × zSt) : Int × zSt := (if a.1 = 0 then (if shv (a.2 65) j o = sP (a.2 65) (5 * j + o) then 0 else 1) else 1, zup a.2 65 (26 + 4 * (5 * j + o)) (shv (a.2 65) j o))
/-- within a pass: q the plan that holds the equation, th the settled old starts, T0 the row at the pass's begin -/
def PI (S T0 : Row) (q : Nat → Nat → Int) (th : Int) (σ0 : zSt) (j o : Nat) (a : Int × zSt) : Prop := ∃ T, a.2 = zset σ0 65 T ∧ StaP S T ∧ (∀ j' o', Live S j' o' → sL S (5 * j' + o') ≤ sP T (5 * j' + o') ∧ sP T (5 * j' + o') ≤ q j' o') ∧ (∀ j' o', Live S j' o' → sL S (5 * j' + o') < th → sP T (5 * j' + o') = q j' o') ∧ (∀ j' o', Live S j' o' → Bef (nO S) j o j' o' → sL S (5 * j' + o') < th + 1 → sP T (5 * j' + o') = q j' o') ∧ (a.1 = 0 ∨ a.1 = 1) ∧ (a.1 = 0 → T = T0 ∧ ∀ j' o', Live S j' o' → Bef (nO S) j o j' o' → ShAt S (fun j o => sP T0 (5 * j + o)) j' o' (sP T0 (5 * j' + o'))) ∧ ((∀ j' o', Live S j' o' → sP T0 (5 * j' + o') = q j' o') → a.1 = 0)
theorem PI_step {S T0 : Row} (hG : Good S) {β M : Int} (hV : VO S β) {q : Nat → Nat → Int} (hq : ShEq S q) {th : Int} {σ0 : zSt} {j o : Nat} {a : Int × zSt} (hl : Live S j o) (h : PI S T0 q th σ0 j o a) (hv : ShAt (a.2 65) (fun j o => sP (a.2 65) (5 * j + o)) j o (shv (a.2 65) j o)) : PI S T0 q th σ0 j (o + 1) (pS j o a) := by
  obtain ⟨T, e1, stP, hbd, hset, hnew, hg, h0, hall⟩ := h
  have hr : a.2 65 = T := by rw [e1, zset_at]
  have hj6 := hG.j6 hl.1
  have ho5 := hG.o5 hl
  rw [hr] at hv
  have hv2 := ShAt_sta hG stP hv
  unfold pS
  rw [hr]
  have hub : shv T j o ≤ q j o := hv2.mono (hq j o hl) (fun j' o' hl' _ => (hbd j' o' hl').2)
  have hlb : sL S (5 * j + o) ≤ shv T j o := by
    obtain ⟨m, h1, h2⟩ := hv2
    have := h1.1; have := h2.1; omega
  have hfix : sL S (5 * j + o) < th + 1 → shv T j o = q j o := by
    intro hth
    have h1 := (hq j o hl).mono hv2 (fun j' o' hl' hd => by
      have hlt : sL S (5 * j' + o') < sL S (5 * j + o) := by
        rcases hd with ⟨rfl, rfl⟩ | ⟨_, hd⟩
        · exact hV.2.1 j' o' hl
        · exact hd
      have := hset j' o' hl' (by omega)
      show q j' o' ≤ sP T (5 * j' + o')
      omega)
    omega
  have hb0 := (hbd j o hl)
  have hL0 := (hV.1 j o hl).1
  have st2 := setP_sta (S := T) (i := 5 * j + o) (v := shv T j o) (by omega)
  have hval : ∀ j' o', Live S j' o' → sP (setP T (5 * j + o) (shv T j o)) (5 * j' + o') = if j' = j ∧ o' = o then shv T j o else sP T (5 * j' + o') := by
    intro j' o' hl'
    have := hG.o5 hl'
    rw [sP_set]
    by_cases c : j' = j ∧ o' = o
    · obtain ⟨rfl, rfl⟩ := c
      rw [if_pos rfl, if_pos ⟨rfl, rfl⟩]
    · rw [if_neg (by omega), if_neg c]
  refine ⟨setP T (5 * j + o) (shv T j o), ?_, stP.trans st2, ?_, ?_, ?_, ?_, ?_, ?_⟩
  · rw [zup_set, hr, e1, zset_set]; rfl
  · intro j' o' hl'
    rw [hval j' o' hl']
    by_cases c : j' = j ∧ o' = o
    · obtain ⟨rfl, rfl⟩ := c
      rw [if_pos ⟨rfl, rfl⟩]; exact ⟨hlb, hub⟩
    · rw [if_neg c]; exact hbd j' o' hl'
  · intro j' o' hl' hth
    rw [hval j' o' hl']
    by_cases c : j' = j ∧ o' = o
    · obtain ⟨rfl, rfl⟩ := c
      rw [if_pos ⟨rfl, rfl⟩]; exact hfix (by omega)
    · rw [if_neg c]; exact hset j' o' hl' hth
  · intro j' o' hl' hb hth
    rw [hval j' o' hl']
    by_cases c : j' = j ∧ o' = o
    · obtain ⟨rfl, rfl⟩ := c
      rw [if_pos ⟨rfl, rfl⟩]; exact hfix hth
    · rw [if_neg c]
      exact hnew j' o' hl' ⟨hb.1, by have := hb.2; omega⟩ hth
  · dsimp only
    split
    · split
      · exact Or.inl rfl
      · exact Or.inr rfl
    · exact Or.inr rfl
  · dsimp only
    intro hz
    by_cases ca : a.1 = 0
    · rw [if_pos ca] at hz
      by_cases cv : shv T j o = sP T (5 * j + o)
      · obtain ⟨g1, g2⟩ := h0 ca
        have hTT : setP T (5 * j + o) (shv T j o) = T := by
          funext k
          unfold setP rset
          by_cases ck : k = 26 + 4 * (5 * j + o)
          · rw [if_pos ck, cv, ck]; rfl
          · rw [if_neg ck]
        refine ⟨by rw [hTT]; exact g1, fun j' o' hl' hb => ?_⟩
        by_cases c : j' = j ∧ o' = o
        · obtain ⟨rfl, rfl⟩ := c
          rw [cv] at hv2
          rw [← g1]; exact hv2
        · exact g2 j' o' hl' ⟨hb.1, by have := hb.2; omega⟩
      · rw [if_neg cv] at hz; exact absurd hz (by decide)
    · rw [if_neg ca] at hz; exact absurd hz (by decide)
  · intro ha
    have ca := hall ha
    dsimp only
    rw [if_pos ca, if_pos]
    have g1 := (h0 ca).1
    have h1 : sP T (5 * j + o) = q j o := by rw [g1]; exact ha j o hl
    have h2 := (hq j o hl).mono hv2 (fun j' o' hl' _ => by
      show q j' o' ≤ sP T (5 * j' + o')
      rw [g1, ha j' o' hl']; exact Int.le_refl _)
    omega
theorem zloop2e {α D E R : Type} (n : Nat) (no : Nat → Nat) (f : Nat → Nat → α → α) (H : Nat → α → D → R) (I : Nat → Nat → α → E → R) (Inv : Nat → Nat → α → Prop)
    (h0 : ∀ j a d, j < n → Inv j 0 a → ∃ e, H j a d = I j 0 a e)
    (h1 : ∀ j o a e, j < n → o < no j → Inv j o a → (∃ e', I j o a e = I j (o + 1) (f j o a) e') ∧ Inv j (o + 1) (f j o a))
    (h2 : ∀ j a e, j < n → Inv j (no j) a → (∃ d, I j (no j) a e = H (j + 1) a d) ∧ Inv (j + 1) 0 a) (a : α) (d : D) (hi : Inv 0 0 a) : (∃ d', H 0 a d = H n (fJ no f n a) d') ∧ Inv n 0 (fJ no f n a) := by
  have inner : ∀ (j : Nat), j < n → ∀ (a : α) (e : E), Inv j 0 a → ∀ o, o ≤ no j → (∃ e', I j 0 a e = I j o (fO f j o a) e') ∧ Inv j o (fO f j o a) := by
    intro j hj a e hi o
    induction o with
    | zero => intro _; exact ⟨⟨e, rfl⟩, hi⟩
    | succ o ih =>
      intro ho
      obtain ⟨⟨e1, q1⟩, q2⟩ := ih (by omega)
      obtain ⟨⟨e2, q3⟩, q4⟩ := h1 j o _ e1 hj (by omega) q2
      exact ⟨⟨e2, q1.trans q3⟩, q4⟩
  have outer : ∀ j, j ≤ n → (∃ d', H 0 a d = H j (fJ no f j a) d') ∧ Inv j 0 (fJ no f j a) := by
    intro j
    induction j with
    | zero => intro _; exact ⟨⟨d, rfl⟩, hi⟩
    | succ j ih =>
      intro hj
      obtain ⟨⟨d1, q1⟩, q2⟩ := ih (by omega)
      obtain ⟨e1, q3⟩ := h0 j _ d1 (by omega) q2
      obtain ⟨⟨e2, q4⟩, q5⟩ := inner j (by omega) _ e1 q2 (no j) (Nat.le_refl _)
      obtain ⟨⟨d2, q6⟩, q7⟩ := h2 j _ e2 (by omega) q5
      exact ⟨⟨d2, q1.trans (q3.trans (q4.trans q6))⟩, q7⟩
  exact outer n (Nat.le_refl _)
