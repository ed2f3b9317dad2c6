/-! ===== 04: runs of the small machine; what they come to, without a count of steps ===== -/
noncomputable def zev (n m pc : Nat) (ls : zLc) (st : List zVal) (σ : zSt) : Option zOut := match n with
  | 0 => none
  | n + 1 => match zcode m pc ls st σ with
    | none => none
    | some (.inl (pc', ls', st', σ')) => zev n m pc' ls' st' σ'
    | some (.inr (.inl r)) => some (.inl r)
    | some (.inr (.inr (.inr e))) => some (.inr e)
    | some (.inr (.inr (.inl (m', as, nl, rk, (pc', ls', st', σ'))))) => match zev n m' 0 (zpad nl (zlay as)) [] σ' with
      | some (.inl (v, σ'')) => match zrk rk v with
        | some vs => zev n m pc' ls' (vs ++ st') σ''
        | none => none
      | _ => none
theorem zev_succ : ∀ (n m pc : Nat) (ls : zLc) (st : List zVal) (σ : zSt) (r : zOut), zev n m pc ls st σ = some r → zev (n + 1) m pc ls st σ = some r := by
  intro n
  induction n with
  | zero => intro m pc ls st σ r h; simp [zev] at h
  | succ n ih =>
    intro m pc ls st σ r h
    rw [zev] at h ⊢
    rcases hc : zcode m pc ls st σ with _ | (⟨pc', ls', st', σ'⟩ | r' | ⟨m', as, nl, rk, pc', ls', st', σ'⟩ | e)
    · rw [hc] at h; cases h
    · rw [hc] at h; exact ih _ _ _ _ _ _ h
    · rw [hc] at h; exact h
    · rw [hc] at h
      dsimp only at h ⊢
      rcases hr : zev n m' 0 (zpad nl (zlay as)) [] σ' with _ | (⟨v, σ''⟩ | e)
      · rw [hr] at h; cases h
      · rw [hr] at h
        rw [ih _ _ _ _ _ _ hr]
        dsimp only at h ⊢
        rcases hk : zrk rk v with _ | vs
        · rw [hk] at h; cases h
        · rw [hk] at h; exact ih _ _ _ _ _ _ h
      · rw [hr] at h; cases h
    · rw [hc] at h; exact h
theorem zev_le {n k m pc : Nat} {ls : zLc} {st : List zVal} {σ : zSt} {r : zOut} (h : zev n m pc ls st σ = some r) (hk : n ≤ k) : zev k m pc ls st σ = some r := by
  induction hk with
  | refl => exact h
  | step _ ih => exact zev_succ _ _ _ _ _ _ _ ih
/-- what a run comes to -/
noncomputable def zE (m pc : Nat) (ls : zLc) (st : List zVal) (σ : zSt) : Option zOut :=
  @dite _ (∃ n r, zev n m pc ls st σ = some r) (Classical.propDecidable _) (fun h => some (Classical.choose (Classical.choose_spec h))) (fun _ => none)
theorem zE_iff {m pc : Nat} {ls : zLc} {st : List zVal} {σ : zSt} {r : zOut} : zE m pc ls st σ = some r ↔ ∃ n, zev n m pc ls st σ = some r := by
  unfold zE
  constructor
  · intro h
    by_cases hx : ∃ n r, zev n m pc ls st σ = some r
    · rw [dif_pos hx] at h
      cases h
      exact ⟨_, Classical.choose_spec (Classical.choose_spec hx)⟩
    · rw [dif_neg hx] at h; cases h
  · rintro ⟨n, h⟩
    have hx : ∃ n r, zev n m pc ls st σ = some r := ⟨n, r, h⟩
    rw [dif_pos hx]
    have h2 := Classical.choose_spec (Classical.choose_spec hx)
    have h3 := zev_le h2 (Nat.le_max_left (Classical.choose hx) n)
    have h4 := zev_le h (Nat.le_max_right (Classical.choose hx) n)
    exact h3.symm.trans h4
theorem zopt_ext {α : Type} {a b : Option α} (h : ∀ r, a = some r ↔ b = some r) : a = b := by
  cases a with
  | none =>
    cases b with
    | none => rfl
    | some y => exact ((h y).mpr rfl)
  | some x => exact ((h x).mp rfl).symm
/-- a call's end, by its kind -/
def zbV (r : Option zOut) (F : zSt → Option zOut) : Option zOut := match r with
  | some (.inl (none, σ)) => F σ
  | _ => none
def zbI (r : Option zOut) (F : Int → zSt → Option zOut) : Option zOut := match r with
  | some (.inl (some (.inl x), σ)) => F x σ
  | _ => none
def zbL (r : Option zOut) (F : Int64 → zSt → Option zOut) : Option zOut := match r with
  | some (.inl (some (.inr (.inr x)), σ)) => F x σ
  | _ => none
noncomputable def zfin (m : Nat) (r : Option zStp) : Option zOut := match r with
  | none => none
  | some (.inl (pc', ls', st', σ')) => zE m pc' ls' st' σ'
  | some (.inr (.inl r)) => some (.inl r)
  | some (.inr (.inr (.inr e))) => some (.inr e)
  | some (.inr (.inr (.inl (m', as, nl, rk, (pc', ls', st', σ'))))) => match zE m' 0 (zpad nl (zlay as)) [] σ' with
    | some (.inl (v, σ'')) => match zrk rk v with
      | some vs => zE m pc' ls' (vs ++ st') σ''
      | none => none
    | _ => none
theorem zE_step (m pc : Nat) (ls : zLc) (st : List zVal) (σ : zSt) : zE m pc ls st σ = zfin m (zcode m pc ls st σ) := by
  have h0 : zE m pc ls st σ = zE m pc ls st σ := rfl
  apply zopt_ext
  intro r
  rw [zE_iff]
  have hs : (∃ n, zev n m pc ls st σ = some r) ↔ ∃ n, zev (n + 1) m pc ls st σ = some r := ⟨fun ⟨n, h⟩ => ⟨n, zev_succ _ _ _ _ _ _ _ h⟩, fun ⟨n, h⟩ => ⟨n + 1, h⟩⟩
  rw [hs]
  simp only [zev]
  rcases hc : zcode m pc ls st σ with _ | (⟨pc', ls', st', σ'⟩ | r' | ⟨m', as, nl, rk, pc', ls', st', σ'⟩ | e)
  · simp [zfin]
  · simp only [zfin]
    exact zE_iff.symm
  · simp [zfin]
  · simp only [zfin]
    constructor
    · rintro ⟨n, h⟩
      rcases hr : zev n m' 0 (zpad nl (zlay as)) [] σ' with _ | (⟨v, σ''⟩ | e)
      · rw [hr] at h; cases h
      · rw [hr] at h
        rw [zE_iff.mpr ⟨n, hr⟩]
        dsimp only at h ⊢
        rcases hk : zrk rk v with _ | vs
        · rw [hk] at h; cases h
        · rw [hk] at h
          exact zE_iff.mpr ⟨n, h⟩
      · rw [hr] at h; cases h
    · intro h
      rcases hr : zE m' 0 (zpad nl (zlay as)) [] σ' with _ | (⟨v, σ''⟩ | e)
      · rw [hr] at h; cases h
      · rw [hr] at h
        dsimp only at h
        rcases hk : zrk rk v with _ | vs
        · rw [hk] at h; cases h
        · rw [hk] at h
          obtain ⟨n1, h1⟩ := zE_iff.mp hr
          obtain ⟨n2, h2⟩ := zE_iff.mp h
          refine ⟨max n1 n2, ?_⟩
          rw [zev_le h1 (Nat.le_max_left n1 n2)]
          dsimp only
          rw [hk]
          exact zev_le h2 (Nat.le_max_right n1 n2)
      · rw [hr] at h; cases h
  · simp [zfin]
/-- k steps at most, up to the first that does not just go on -/
noncomputable def zrun (k m : Nat) (c : zCf) : Option zStp := match k with
  | 0 => some (.inl c)
  | k + 1 => match c with
    | (pc, ls, st, σ) => match zcode m pc ls st σ with
      | some (.inl c') => zrun k m c'
      | r => r
theorem zE_run (k m pc : Nat) (ls : zLc) (st : List zVal) (σ : zSt) : zE m pc ls st σ = zfin m (zrun k m (pc, ls, st, σ)) := by
  induction k generalizing pc ls st σ with
  | zero => rfl
  | succ k ih =>
    rw [zE_step, zrun]
    rcases hc : zcode m pc ls st σ with _ | (⟨pc', ls', st', σ'⟩ | r' | ⟨m', as, nl, rk, pc', ls', st', σ'⟩ | e)
    · rfl
    · simp only [zfin]
      exact ih pc' ls' st' σ'
    · rfl
    · rfl
    · rfl
/-- k steps that just go on, and one more -/
noncomputable def zrx (k m : Nat) (c : zCf) : Option zStp := match zrun k m c with
  | some (.inl (pc, ls, st, σ)) => zcode m pc ls st σ
  | r => r
theorem zE_rx (k m pc : Nat) (ls : zLc) (st : List zVal) (σ : zSt) : zE m pc ls st σ = zfin m (zrx k m (pc, ls, st, σ)) := by
  rw [zE_run k, zrx]
  rcases zrun k m (pc, ls, st, σ) with _ | (⟨pc', ls', st', σ'⟩ | r' | ⟨m', as, nl, rk, pc', ls', st', σ'⟩ | e)
  · rfl
  · exact zE_step _ _ _ _ _
  · rfl
  · rfl
  · rfl
def zgd (g : Prop) [Decidable g] (x : Option zOut) : Option zOut := if g then x else none
theorem zgd_pos {g : Prop} [Decidable g] {x : Option zOut} (h : g) : zgd g x = x := if_pos h
theorem zt_go {k m pc pc' : Nat} {ls ls' : zLc} {st st' : List zVal} {σ σ' : zSt} {x : Option zOut} (h : zrun k m (pc, ls, st, σ) = some (.inl (pc', ls', st', σ'))) (h1 : zE m pc' ls' st' σ' = x) : zE m pc ls st σ = x := by
  rw [zE_run k, h]; exact h1
theorem zt_br {k m pc t f : Nat} {ls ls' : zLc} {st st' : List zVal} {σ σ' : zSt} {c : Prop} [Decidable c] {x y : Option zOut} (h : zrun k m (pc, ls, st, σ) = some (.inl (if c then t else f, ls', st', σ'))) (h1 : zE m t ls' st' σ' = x) (h2 : zE m f ls' st' σ' = y) : zE m pc ls st σ = if c then x else y := by
  rw [zE_run k, h]
  show zE m _ _ _ _ = _
  by_cases hc : c
  · rw [if_pos hc, if_pos hc]; exact h1
  · rw [if_neg hc, if_neg hc]; exact h2
theorem zt_or {m : Nat} {ls : zLc} {st : List zVal} {σ : zSt} {t f : Nat} {c : Prop} [Decidable c] {x y : Option zOut} (h1 : zE m t ls st σ = x) (h2 : zE m f ls st σ = y) : zE m (if c then t else f) ls st σ = if c then x else y := by
  by_cases hc : c
  · rw [if_pos hc, if_pos hc]; exact h1
  · rw [if_neg hc, if_neg hc]; exact h2
theorem zt_gd {k m pc pc' : Nat} {ls ls' : zLc} {st st' : List zVal} {σ σ' : zSt} {c : Prop} [Decidable c] {x : Option zOut} (h : zrx k m (pc, ls, st, σ) = if c then some (.inl (pc', ls', st', σ')) else none) (h1 : zE m pc' ls' st' σ' = x) : zE m pc ls st σ = zgd c x := by
  rw [zE_rx k, h, zgd]
  by_cases hc : c
  · rw [if_pos hc, if_pos hc]; exact h1
  · rw [if_neg hc, if_neg hc]; rfl
theorem zt_4 {k m pc pc' : Nat} {ls ls' : zLc} {r : List zVal} {σ σ' : zSt} {st : List zVal} {i : Int} {x0 x1 x2 x3 : Option zOut} (h : zrx k m (pc, ls, st, σ) = if i = 0 then zGo pc' ls' (zR 3 :: r) σ' else if i = 1 then zGo pc' ls' (zR 4 :: r) σ' else if i = 2 then zGo pc' ls' (zR 5 :: r) σ' else if i = 3 then zGo pc' ls' (zR 6 :: r) σ' else none)
    (h0 : zE m pc' ls' (zR 3 :: r) σ' = x0) (h1 : zE m pc' ls' (zR 4 :: r) σ' = x1) (h2 : zE m pc' ls' (zR 5 :: r) σ' = x2) (h3 : zE m pc' ls' (zR 6 :: r) σ' = x3) : zE m pc ls st σ = if i = 0 then x0 else if i = 1 then x1 else if i = 2 then x2 else if i = 3 then x3 else none := by
  rw [zE_rx k, h]
  by_cases c0 : i = 0
  · rw [if_pos c0, if_pos c0]; exact h0
  rw [if_neg c0, if_neg c0]
  by_cases c1 : i = 1
  · rw [if_pos c1, if_pos c1]; exact h1
  rw [if_neg c1, if_neg c1]
  by_cases c2 : i = 2
  · rw [if_pos c2, if_pos c2]; exact h2
  rw [if_neg c2, if_neg c2]
  by_cases c3 : i = 3
  · rw [if_pos c3, if_pos c3]; exact h3
  rw [if_neg c3, if_neg c3]; rfl
theorem zt_ret {k m pc : Nat} {ls : zLc} {st : List zVal} {σ : zSt} {r : Option zVal × zSt} (h : zrun k m (pc, ls, st, σ) = some (.inr (.inl r))) : zE m pc ls st σ = some (.inl r) := by
  rw [zE_run k, h]; rfl
theorem zt_zret {k m pc : Nat} {ls : zLc} {st : List zVal} {σ : zSt} {c : Prop} [Decidable c] {r : Option zVal × zSt} (h : zrx k m (pc, ls, st, σ) = if c then some (.inr (.inl r)) else none) : zE m pc ls st σ = zgd c (some (.inl r)) := by
  rw [zE_rx k, h, zgd]
  by_cases hc : c
  · rw [if_pos hc, if_pos hc]; rfl
  · rw [if_neg hc, if_neg hc]; rfl
theorem zt_thr {k m pc : Nat} {ls : zLc} {st : List zVal} {σ : zSt} {e : (Nat × zLc) × zSt} (h : zrun k m (pc, ls, st, σ) = some (.inr (.inr (.inr e)))) : zE m pc ls st σ = some (.inr e) := by
  rw [zE_run k, h]; rfl
theorem zt_cV {k m pc m' nl pc' : Nat} {ls ls' La : zLc} {st st' as : List zVal} {σ σ' : zSt} {F : zSt → Option zOut} (h : zrun k m (pc, ls, st, σ) = some (.inr (.inr (.inl (m', as, nl, 0, (pc', ls', st', σ')))))) (ha : zpad nl (zlay as) = La) (h1 : ∀ σ1, zE m pc' ls' st' σ1 = F σ1) : zE m pc ls st σ = zbV (zE m' 0 La [] σ') F := by
  subst ha
  rw [zE_run k, h]
  simp only [zfin, zbV]
  rcases zE m' 0 (zpad nl (zlay as)) [] σ' with _ | (⟨_ | (x | (x | x)), σ''⟩ | e) <;> simp [zrk, h1]
theorem zt_cI {k m pc m' nl pc' : Nat} {ls ls' La : zLc} {st st' as : List zVal} {σ σ' : zSt} {F : Int → zSt → Option zOut} (h : zrun k m (pc, ls, st, σ) = some (.inr (.inr (.inl (m', as, nl, 1, (pc', ls', st', σ')))))) (ha : zpad nl (zlay as) = La) (h1 : ∀ x σ1, zE m pc' ls' (zI x :: st') σ1 = F x σ1) : zE m pc ls st σ = zbI (zE m' 0 La [] σ') F := by
  subst ha
  rw [zE_run k, h]
  simp only [zfin, zbI]
  rcases zE m' 0 (zpad nl (zlay as)) [] σ' with _ | (⟨_ | (x | (x | x)), σ''⟩ | e) <;> simp [zrk, h1]
theorem zt_cL {k m pc m' nl pc' : Nat} {ls ls' La : zLc} {st st' as : List zVal} {σ σ' : zSt} {F : Int64 → zSt → Option zOut} (h : zrun k m (pc, ls, st, σ) = some (.inr (.inr (.inl (m', as, nl, 2, (pc', ls', st', σ')))))) (ha : zpad nl (zlay as) = La) (h1 : ∀ x σ1, zE m pc' ls' (zL x :: st') σ1 = F x σ1) : zE m pc ls st σ = zbL (zE m' 0 La [] σ') F := by
  subst ha
  rw [zE_run k, h]
  simp only [zfin, zbL]
  rcases zE m' 0 (zpad nl (zlay as)) [] σ' with _ | (⟨_ | (x | (x | x)), σ''⟩ | e) <;> simp [zrk, h1]
/-! rows for the ends of calls -/
theorem zbV_some {σ : zSt} {F : zSt → Option zOut} : zbV (some (.inl (none, σ))) F = F σ := rfl
theorem zbI_some {x : Int} {σ : zSt} {F : Int → zSt → Option zOut} : zbI (some (.inl (some (zI x), σ))) F = F x σ := rfl
theorem zbL_some {x : Int64} {σ : zSt} {F : Int64 → zSt → Option zOut} : zbL (some (.inl (some (zL x), σ))) F = F x σ := rfl
theorem zt_gc {k m pc pc' : Nat} {ls ls' : zLc} {st st' : List zVal} {σ σ' : zSt} {c : Prop} {x : Option zOut} (h : zrx k m (pc, ls, st, σ) = @ite _ c (Classical.propDecidable c) (some (.inl (pc', ls', st', σ'))) none) (h1 : zE m pc' ls' st' σ' = x) : zE m pc ls st σ = zgc c x := by
  rw [zE_rx k, h, zgc]
  by_cases hc : c
  · rw [if_pos hc, if_pos hc]; exact h1
  · rw [if_neg hc, if_neg hc]; rfl
