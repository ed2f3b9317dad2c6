/-! ===== 02b: the small machine's world in the heap; its numbers as ints of 32 bits ===== -/
theorem zmem {w : Cond} (i : Nat) (h : lw_tbl[i]? = some w) : w ∈ lw_tbl := List.mem_of_getElem? h
/-- the words that a callee may ask for -/
def zWL : List Cond := lw_tbl.filter goodWord
theorem zwl {w : Cond} (i : Nat) (h : lw_tbl[i]? = some w) (hg : goodWord w = true) : w ∈ zWL := List.mem_filter.mpr ⟨List.mem_of_getElem? h, hg⟩
/-- the words of nest mates -/
def znest (w : Cond) : Bool := match w with
  | .fieldLinkNest .. => true
  | .methodLinkNest .. => true
  | _ => false
def zNL : List Cond := lw_tbl.filter znest
theorem znl {w : Cond} (i : Nat) (h : lw_tbl[i]? = some w) (hg : znest w = true) : w ∈ zNL := List.mem_filter.mpr ⟨List.mem_of_getElem? h, hg⟩
def zNst (U : State) : Prop := ∀ w ∈ zNL, va_Nw w U
theorem znest_on {w : Cond} (h : znest w = true) : w.onTables = true := by
  cases w <;> first | rfl | (simp [znest] at h)
theorem zNst_warm {s U : State} (hW : s.WarmedH U.vm) (h : zNst s) : zNst U := by
  intro w hw
  have hn := (List.mem_filter.mp hw).2
  have h1 := h w hw
  cases w <;> first | exact va_Nw.warmF hW h1 | exact va_Nw.warmM hW h1 | (simp [znest] at hn)
theorem zNst_same {u U : State} (e : u.vm = U.vm) (h : zNst u) : zNst U := fun w hw => va_Nw.same (znest_on (List.mem_filter.mp hw).2) e (h w hw)
abbrev zr (x : Int) : Prop := -2147483648 ≤ x ∧ x < 2147483648
theorem zw_r (x : Int) : zr (zw x) := ⟨Int32.le_toInt _, Int32.toInt_lt _⟩
theorem zof_zw (x : Int) : Int32.ofInt (zw x) = Int32.ofInt x := Int32.ofInt_toInt _
theorem zto {x : Int} (h : zr x) : (Int32.ofInt x).toInt = x := Int32.toInt_ofInt_of_le h.1 h.2
theorem zw_id {x : Int} (h1 : -2147483648 ≤ x) (h2 : x < 2147483648) : zw x = x := zto ⟨h1, h2⟩
theorem zof_inj {x y : Int} (hx : zr x) (hy : zr y) : Int32.ofInt x = Int32.ofInt y ↔ x = y := by
  rw [← Int32.toInt_inj, zto hx, zto hy]
theorem zof_lt {x y : Int} (hx : zr x) (hy : zr y) : Int32.ofInt x < Int32.ofInt y ↔ x < y := by
  rw [Int32.lt_iff_toInt_lt, zto hx, zto hy]
theorem zof_le {x y : Int} (hx : zr x) (hy : zr y) : Int32.ofInt x ≤ Int32.ofInt y ↔ x ≤ y := by
  rw [Int32.le_iff_toInt_le, zto hx, zto hy]
theorem zof_cl {x : Int} (h : zr x) : (Int32.ofInt x).toNatClampNeg = x.toNat := by
  rw [← Int32.toNat_toInt, zto h]
theorem zr0 : zr 0 := by constructor <;> decide
theorem zof_0 : Int32.ofInt 0 = 0 := rfl
theorem zof_eq0 {x : Int} (hx : zr x) : Int32.ofInt x = 0 ↔ x = 0 := by rw [← zof_0]; exact zof_inj hx zr0
theorem zof_lt0 {x : Int} (hx : zr x) : Int32.ofInt x < 0 ↔ x < 0 := by rw [← zof_0]; exact zof_lt hx zr0
theorem zof_le0 {x : Int} (hx : zr x) : Int32.ofInt x ≤ 0 ↔ x ≤ 0 := by rw [← zof_0]; exact zof_le hx zr0
theorem zof_0le {x : Int} (hx : zr x) : 0 ≤ Int32.ofInt x ↔ 0 ≤ x := by rw [← zof_0]; exact zof_le zr0 hx
theorem zof_0lt {x : Int} (hx : zr x) : 0 < Int32.ofInt x ↔ 0 < x := by rw [← zof_0]; exact zof_lt zr0 hx
theorem zin {i : Int} {n : Int} (hi : zr i) (h : 0 ≤ i ∧ i < n) : vp_in (Int32.ofInt i) n.toNat := by
  unfold vp_in
  rw [zof_lt0 hi, zof_cl hi]
  omega
/-- a value of the small machine as a value -/
def zv (A : Nat → Nat) (v : zVal) : Value := match v with
  | .inl x => .int (Int32.ofInt x)
  | .inr (.inl k) => .ref (A k)
  | .inr (.inr x) => .long x
def zok (v : zVal) : Prop := match v with
  | .inl x => zr x
  | _ => True
def zoks (σ : zSt) : Prop := ∀ k j, zr (σ k j)
def zfv (A : Nat → Nat) (σ : zSt) (k j : Nat) : Value := match zfl k j with
  | 0 => .int (Int32.ofInt (σ k j))
  | q + 1 => .ref (A q)
/-- how many fields the object at place k has -/
def znf (k : Nat) : Nat := match zcl k with
  | 1 => 3
  | 2 => 8
  | 3 => 4
  | 4 => 15
  | 5 => 4
  | _ => 0
def zent (A : Nat → Nat) (cI cQ : ClassId) (σ : zSt) (k : Nat) : va_E :=
  if zcl k = 0 then (if k = 63 then .inl (cQ, 4, .inr (.inr (.inr (.inr (fun i => some (A (3 + i))))))) else .inl (cI, (zal k).toNat, .inl (fun j => Int32.ofInt (σ k j))))
  else .inr (zcl k - 1, (List.range (znf k)).map (zfv A σ k))
def zW (A : Nat → Nat) (cI cQ : ClassId) (σ : zSt) : va_W := (List.range 69).map (fun k => (A k, zent A cI cQ σ k))
abbrev zcls : List vw_C := [(RX0, TX0, 3), (RX1, TX1, 8), (RX2, TX2, 4), (RX3, TX3, 15), (RX4, TX4, 4)]
abbrev ztys (cI cQ : ClassId) : List (ClassId × FieldType) := [(cI, .int), (cQ, .object RX3)]
theorem zW_get {A : Nat → Nat} {cI cQ : ClassId} {σ : zSt} {k : Nat} (h : k < 69) : (zW A cI cQ σ)[k]? = some (A k, zent A cI cQ σ k) := by
  simp [zW, h]
theorem zW_len {A : Nat → Nat} {cI cQ : ClassId} {σ : zSt} : (zW A cI cQ σ).length = 69 := by simp [zW]
theorem zW_at {A : Nat → Nat} {cI cQ : ClassId} {σ : zSt} {k : Nat} {q : Nat × va_E} (h : (zW A cI cQ σ)[k]? = some q) : k < 69 ∧ q = (A k, zent A cI cQ σ k) := by
  have hk : k < (zW A cI cQ σ).length := (List.getElem?_eq_some_iff.mp h).1
  rw [zW_len] at hk
  rw [zW_get hk] at h
  exact ⟨hk, (Option.some.inj h).symm⟩
theorem zW_set {A : Nat → Nat} {cI cQ : ClassId} {σ σ' : zSt} {k : Nat} {e : va_E} (hk : k < 69) (he : e = zent A cI cQ σ' k) (ho : ∀ j, j ≠ k → zent A cI cQ σ' j = zent A cI cQ σ j) : (zW A cI cQ σ).set k (A k, e) = zW A cI cQ σ' := by
  apply List.ext_getElem?
  intro i
  by_cases hi : i = k
  · subst hi
    rw [List.getElem?_set_self (by rw [zW_len]; exact hk), zW_get hk, he]
  · rw [List.getElem?_set_ne (Ne.symm hi)]
    by_cases h9 : i < 69
    · rw [zW_get h9, zW_get h9, ho i hi]
    · rw [List.getElem?_eq_none (by rw [zW_len]; omega), List.getElem?_eq_none (by rw [zW_len]; omega)]
theorem zcl_lt {k : Nat} (h : zcl k ≠ 0) : k < 9 := by
  unfold zcl at h
  split at h <;> first | omega | exact absurd rfl h
theorem zal_lt {k : Nat} {i : Int} (h : 0 ≤ i ∧ i < zal k) : 9 ≤ k ∧ k < 69 ∧ k ≠ 63 := by
  unfold zal at h
  split at h
  · omega
  · split at h
    · omega
    · split at h
      · omega
      · split at h <;> omega
theorem zcl_ge {k : Nat} (h : 9 ≤ k) : zcl k = 0 := by
  unfold zcl
  split <;> first | omega | rfl
theorem zent_row {A : Nat → Nat} {cI cQ : ClassId} {σ : zSt} {k : Nat} (h1 : 9 ≤ k) (h3 : k ≠ 63) : zent A cI cQ σ k = .inl (cI, (zal k).toNat, .inl (fun j => Int32.ofInt (σ k j))) := by
  unfold zent
  rw [if_pos (zcl_ge h1), if_neg h3]
theorem zent_obj {A : Nat → Nat} {cI cQ : ClassId} {σ : zSt} {k : Nat} (h : zcl k ≠ 0) : zent A cI cQ σ k = .inr (zcl k - 1, (List.range (znf k)).map (zfv A σ k)) := by
  unfold zent
  rw [if_neg h]
theorem zent_ne {A : Nat → Nat} {cI cQ : ClassId} {σ σ' : zSt} {k : Nat} (h : ∀ j, σ' k j = σ k j) : zent A cI cQ σ' k = zent A cI cQ σ k := by
  have e : σ' k = σ k := funext h
  have e2 : zfv A σ' k = zfv A σ k := by
    funext j
    unfold zfv
    rw [e]
  unfold zent
  rw [e, e2]
theorem zup_ne {σ : zSt} {k j k' : Nat} {v : Int} (h : k' ≠ k) (j' : Nat) : zup σ k j v k' j' = σ k' j' := by simp [zup, h]
theorem zoks_up {σ : zSt} (h : zoks σ) {k j : Nat} {v : Int} (hv : zr v) : zoks (zup σ k j v) := by
  intro k' j'
  unfold zup
  split
  · exact hv
  · exact h k' j'
theorem zoks_cp {σ : zSt} (h : zoks σ) {a d n : Nat} : zoks (zcp σ a d n) := by
  intro k' j'
  unfold zcp
  split
  · exact h a j'
  · exact h k' j'
theorem zan_r (x y : Int) : zr (zan x y) := ⟨Int32.le_toInt _, Int32.toInt_lt _⟩
theorem zsh_r (x y : Int) : zr (zsh x y) := ⟨Int32.le_toInt _, Int32.toInt_lt _⟩
theorem zof_an (x y : Int) : Int32.ofInt (zan x y) = Int32.ofInt x &&& Int32.ofInt y := Int32.ofInt_toInt _
theorem zof_sh (x y : Int) : Int32.ofInt (zsh x y) = Int32.ofInt x >>> (Int32.ofInt y &&& 31) := Int32.ofInt_toInt _
theorem zof_div {x y : Int} (hx : zr x) (hy : zr y) (h0 : 0 ≤ x) (h1 : 0 < y) : Int32.ofInt x / Int32.ofInt y = Int32.ofInt (x / y) ∧ zr (x / y) := by
  have h2 : 0 ≤ x / y := Int.ediv_nonneg h0 (Int.le_of_lt h1)
  have h3 : x / y ≤ x := Int.ediv_le_self y h0
  have hr : zr (x / y) := ⟨by omega, by have := hx.2; omega⟩
  refine ⟨?_, hr⟩
  have hne : Int32.ofInt y ≠ -1 := fun h => by
    have h4 := congrArg Int32.toInt h
    rw [zto hy] at h4
    have h5 : (-1 : Int32).toInt = -1 := by decide
    omega
  rw [← Int32.toInt_inj, Int32.toInt_div_of_ne_right _ _ hne, zto hx, zto hy, zto hr]
  exact Int.tdiv_eq_ediv_of_nonneg h0
theorem zof_rem {x y : Int} (hx : zr x) (hy : zr y) (h0 : 0 ≤ x) (h1 : 0 < y) : Int32.ofInt x - Int32.ofInt x / Int32.ofInt y * Int32.ofInt y = Int32.ofInt (x % y) ∧ zr (x % y) := by
  have h2 := Int.emod_nonneg x (Int.ne_of_gt h1)
  have h3 := Int.emod_lt_of_pos x h1
  refine ⟨?_, ⟨by omega, by have := hy.2; omega⟩⟩
  rw [(zof_div hx hy h0 h1).1, ← Int32.ofInt_mul, ← Int32.ofInt_sub]
  congr 1
  have := Int.emod_add_mul_ediv x y
  have e := Int.mul_comm y (x / y)
  omega
/-- the law's 'low': never negative -/
theorem zan_low (x : Int) : 0 ≤ zan x 2147483647 := by
  unfold zan
  have e : (Int32.ofInt x &&& Int32.ofInt 2147483647).toBitVec.msb = false := by
    rw [Int32.toBitVec_and, BitVec.msb_and]
    have : (Int32.ofInt 2147483647).toBitVec.msb = false := by decide
    rw [this, Bool.and_false]
  show 0 ≤ (Int32.ofInt x &&& Int32.ofInt 2147483647).toBitVec.toInt
  rw [BitVec.toInt_eq_toNat_of_msb e]
  exact Int.natCast_nonneg _
