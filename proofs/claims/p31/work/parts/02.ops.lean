/-! ===== 02: a small machine of whole numbers: values, steps; a place of the world is a number below 69, its ints are a function ===== -/
abbrev zVal : Type := Int ⊕ (Nat ⊕ Int64)
abbrev zI (x : Int) : zVal := Sum.inl x
abbrev zR (k : Nat) : zVal := Sum.inr (Sum.inl k)
abbrev zL (x : Int64) : zVal := Sum.inr (Sum.inr x)
abbrev zSt : Type := Nat → Nat → Int
abbrev zLc : Type := List (Option zVal)
/-- where a method stands: pc, locals, stack, the world's ints -/
abbrev zCf : Type := Nat × zLc × List zVal × zSt
/-- what a step comes to: goes on; returns; calls (method, arguments, its locals, kind of answer, where it goes on); throws -/
abbrev zStp : Type := zCf ⊕ ((Option zVal × zSt) ⊕ ((Nat × List zVal × Nat × Nat × zCf) ⊕ ((Nat × zLc) × zSt)))
abbrev zGo (pc : Nat) (ls : zLc) (st : List zVal) (σ : zSt) : Option zStp := some (Sum.inl (pc, ls, st, σ))
abbrev zOp : Type := zLc → List zVal → zSt → Option zStp
/-- an int of 32 bits -/
def zw (x : Int) : Int := (Int32.ofInt x).toInt
def zup (σ : zSt) (k j : Nat) (v : Int) : zSt := fun k' j' => if k' = k ∧ j' = j then v else σ k' j'
def zcp (σ : zSt) (a d n : Nat) : zSt := fun k j => if k = d ∧ j < n then σ a j else σ k j
/-- the second half of a long that is lost by a store behind it -/
def zk (ls : zLc) (i : Nat) : zLc := match i with
  | 0 => ls
  | i + 1 => match ls[i]? with
    | some (some (.inr (.inr _))) => ls.set i none
    | _ => ls
def zs1 (ls : zLc) (i : Nat) (v : zVal) : zLc := (zk ls i).set i (some v)
def zs2 (ls : zLc) (i : Nat) (v : zVal) : zLc := ((zk ls i).set i (some v)).set (i + 1) none
/-- a value of one word -/
def zc1 (v : zVal) : Bool := match v with
  | .inr (.inr _) => false
  | _ => true
-- the world: 0 RepairShop, 1 Planner, 2 Shop, 3 to 6 the states' Shops, 7 History, 8 OrderText, 9 the law's q; 10 to 19 the shop's rows, 20 to 59 the states' rows, 60 draft, 61 started, 62 freeFrom, 63 states, 64 bytes, 65 jo, 66 op, 67 kept, 68 br (the law's rows)
/-- the class of a place, from 1 on (0: a row) -/
def zcl (k : Nat) : Nat := match k with
  | 0 => 5
  | 1 => 3
  | 2 => 4
  | 3 => 4
  | 4 => 4
  | 5 => 4
  | 6 => 4
  | 7 => 1
  | 8 => 2
  | _ => 0
def zshopf (b j : Nat) : Nat := match j with
  | 2 => b + 1
  | 3 => b + 2
  | 4 => b + 3
  | 5 => b + 4
  | 6 => b + 5
  | 8 => b + 6
  | 9 => b + 7
  | 10 => b + 8
  | 12 => b + 9
  | 13 => b + 10
  | _ => 0
/-- what field j of the object at place k holds: 0 an int, else one more than the place that it refers to -/
def zfl (k j : Nat) : Nat := match k with
  | 0 => match j with
    | 0 => 2
    | 1 => 3
    | 2 => 8
    | _ => 9
  | 1 => match j with
    | 0 => 3
    | 1 => 61
    | 2 => 62
    | _ => 63
  | 2 => zshopf 10 j
  | 3 => zshopf 20 j
  | 4 => zshopf 30 j
  | 5 => zshopf 40 j
  | 6 => zshopf 50 j
  | 7 => match j with
    | 0 => 64
    | _ => 0
  | 8 => match j with
    | 0 => 65
    | _ => 0
  | _ => 0
/-- how many ints the row at place k has -/
def zal (k : Nat) : Int := if k < 9 then 0 else if k = 9 then 3 else if k < 60 then (match k % 10 with
    | 3 => 30
    | 4 => 30
    | 8 => 30
    | 9 => 30
    | _ => 6) else (match k with
  | 60 => 30
  | 61 => 6
  | 62 => 5
  | 64 => 100
  | 65 => 9
  | 66 => 48
  | 67 => 48
  | 68 => 9
  | _ => 0)
def o_no : zOp := fun _ _ _ => none
def o_const (v : Int) (nx : Nat) : zOp := fun ls st σ => zGo nx ls (zI v :: st) σ
def o_lconst (v : Int64) (nx : Nat) : zOp := fun ls st σ => zGo nx ls (zL v :: st) σ
def o_iload (k nx : Nat) : zOp := fun ls st σ => match ls[k]? with
  | some (some (.inl x)) => zGo nx ls (zI x :: st) σ
  | _ => none
def o_aload (k nx : Nat) : zOp := fun ls st σ => match ls[k]? with
  | some (some (.inr (.inl x))) => zGo nx ls (zR x :: st) σ
  | _ => none
def o_lload (k nx : Nat) : zOp := fun ls st σ => match ls[k]? with
  | some (some (.inr (.inr x))) => zGo nx ls (zL x :: st) σ
  | _ => none
def o_istore (k nx : Nat) : zOp := fun ls st σ => match st with
  | .inl x :: r => zGo nx (zs1 ls k (zI x)) r σ
  | _ => none
def o_astore (k nx : Nat) : zOp := fun ls st σ => match st with
  | .inr (.inl x) :: r => zGo nx (zs1 ls k (zR x)) r σ
  | _ => none
def o_lstore (k nx : Nat) : zOp := fun ls st σ => match st with
  | .inr (.inr x) :: r => zGo nx (zs2 ls k (zL x)) r σ
  | _ => none
def o_iinc (k : Nat) (d : Int) (nx : Nat) : zOp := fun ls st σ => match ls[k]? with
  | some (some (.inl x)) => zGo nx (ls.set k (some (zI (zw (x + d))))) st σ
  | _ => none
def o_iadd (nx : Nat) : zOp := fun ls st σ => match st with
  | .inl y :: .inl x :: r => zGo nx ls (zI (zw (x + y)) :: r) σ
  | _ => none
def o_isub (nx : Nat) : zOp := fun ls st σ => match st with
  | .inl y :: .inl x :: r => zGo nx ls (zI (zw (x - y)) :: r) σ
  | _ => none
def o_imul (nx : Nat) : zOp := fun ls st σ => match st with
  | .inl y :: .inl x :: r => zGo nx ls (zI (zw (x * y)) :: r) σ
  | _ => none
def o_ineg (nx : Nat) : zOp := fun ls st σ => match st with
  | .inl x :: r => zGo nx ls (zI (zw (-x)) :: r) σ
  | _ => none
/-- an int as a long -/
def zl (x : Int) : Int64 := (Int32.ofInt x).toInt64
def o_i2l (nx : Nat) : zOp := fun ls st σ => match st with
  | .inl x :: r => zGo nx ls (zL (zl x) :: r) σ
  | _ => none
def o_ladd (nx : Nat) : zOp := fun ls st σ => match st with
  | .inr (.inr y) :: .inr (.inr x) :: r => zGo nx ls (zL (x + y) :: r) σ
  | _ => none
def o_lmul (nx : Nat) : zOp := fun ls st σ => match st with
  | .inr (.inr y) :: .inr (.inr x) :: r => zGo nx ls (zL (x * y) :: r) σ
  | _ => none
def o_dup (nx : Nat) : zOp := fun ls st σ => match st with
  | a :: r => cond (zc1 a) (zGo nx ls (a :: a :: r) σ) none
  | _ => none
def o_dup2 (nx : Nat) : zOp := fun ls st σ => match st with
  | a :: b :: r => cond (zc1 a && zc1 b) (zGo nx ls (a :: b :: a :: b :: r) σ) none
  | _ => none
def o_pop (nx : Nat) : zOp := fun ls st σ => match st with
  | a :: r => cond (zc1 a) (zGo nx ls r σ) none
  | _ => none
def o_goto (t : Nat) : zOp := fun ls st σ => zGo t ls st σ
def o_ifeq (t nx : Nat) : zOp := fun ls st σ => match st with
  | .inl x :: r => zGo (if x = 0 then t else nx) ls r σ
  | _ => none
def o_ifne (t nx : Nat) : zOp := fun ls st σ => match st with
  | .inl x :: r => zGo (if x = 0 then nx else t) ls r σ
  | _ => none
def o_iflt (t nx : Nat) : zOp := fun ls st σ => match st with
  | .inl x :: r => zGo (if x < 0 then t else nx) ls r σ
  | _ => none
def o_ifge (t nx : Nat) : zOp := fun ls st σ => match st with
  | .inl x :: r => zGo (if x < 0 then nx else t) ls r σ
  | _ => none
def o_ifgt (t nx : Nat) : zOp := fun ls st σ => match st with
  | .inl x :: r => zGo (if x ≤ 0 then nx else t) ls r σ
  | _ => none
def o_ifle (t nx : Nat) : zOp := fun ls st σ => match st with
  | .inl x :: r => zGo (if x ≤ 0 then t else nx) ls r σ
  | _ => none
def o_ceq (t nx : Nat) : zOp := fun ls st σ => match st with
  | .inl y :: .inl x :: r => zGo (if x = y then t else nx) ls r σ
  | _ => none
def o_cne (t nx : Nat) : zOp := fun ls st σ => match st with
  | .inl y :: .inl x :: r => zGo (if x = y then nx else t) ls r σ
  | _ => none
def o_clt (t nx : Nat) : zOp := fun ls st σ => match st with
  | .inl y :: .inl x :: r => zGo (if x < y then t else nx) ls r σ
  | _ => none
def o_cge (t nx : Nat) : zOp := fun ls st σ => match st with
  | .inl y :: .inl x :: r => zGo (if x < y then nx else t) ls r σ
  | _ => none
def o_cgt (t nx : Nat) : zOp := fun ls st σ => match st with
  | .inl y :: .inl x :: r => zGo (if x ≤ y then nx else t) ls r σ
  | _ => none
def o_cle (t nx : Nat) : zOp := fun ls st σ => match st with
  | .inl y :: .inl x :: r => zGo (if x ≤ y then t else nx) ls r σ
  | _ => none
def o_getf (ci j nx : Nat) : zOp := fun ls st σ => match st with
  | .inr (.inl k) :: r => cond (Nat.beq (zcl k) ci) (match zfl k j with
    | 0 => zGo nx ls (zI (σ k j) :: r) σ
    | q + 1 => zGo nx ls (zR q :: r) σ) none
  | _ => none
def o_putf (ci j nx : Nat) : zOp := fun ls st σ => match st with
  | .inl x :: .inr (.inl k) :: r => cond (Nat.beq (zcl k) ci && Nat.beq (zfl k j) 0) (zGo nx ls r (zup σ k j x)) none
  | _ => none
def o_putz (ci j nx : Nat) : zOp := fun ls st σ => match st with
  | .inl x :: .inr (.inl k) :: r => cond (Nat.beq (zcl k) ci && Nat.beq (zfl k j) 0) (if x = 0 ∨ x = 1 then zGo nx ls r (zup σ k j x) else none) none
  | _ => none
def o_iald (nx : Nat) : zOp := fun ls st σ => match st with
  | .inl i :: .inr (.inl k) :: r => if 0 ≤ i ∧ i < zal k then zGo nx ls (zI (σ k i.toNat) :: r) σ else none
  | _ => none
def o_iast (nx : Nat) : zOp := fun ls st σ => match st with
  | .inl x :: .inl i :: .inr (.inl k) :: r => if 0 ≤ i ∧ i < zal k then zGo nx ls r (zup σ k i.toNat x) else none
  | _ => none
def o_aald (nx : Nat) : zOp := fun ls st σ => match st with
  | .inl i :: .inr (.inl k) :: r => cond (Nat.beq k 63) (if i = 0 then zGo nx ls (zR 3 :: r) σ else if i = 1 then zGo nx ls (zR 4 :: r) σ else if i = 2 then zGo nx ls (zR 5 :: r) σ else if i = 3 then zGo nx ls (zR 6 :: r) σ else none) none
  | _ => none
/-- a callee's locals -/
def zlay (as : List zVal) : zLc := match as with
  | [] => []
  | .inr (.inr x) :: r => some (zL x) :: none :: zlay r
  | .inl x :: r => some (zI x) :: zlay r
  | .inr (.inl x) :: r => some (zR x) :: zlay r
/-- a static call: n arguments -/
def o_call (m n nl rk nx : Nat) : zOp := fun ls st σ => cond (Nat.ble n st.length && Nat.ble (st.drop n).length 4 && Nat.ble (zlay (st.take n).reverse).length nl) (some (Sum.inr (Sum.inr (Sum.inl (m, (st.take n).reverse, nl, rk, (nx, ls, st.drop n, σ)))))) none
/-- a call of a method of an object: n arguments with it -/
def o_callv (ci m n nl rk nx : Nat) : zOp := fun ls st σ => match (st.take n).reverse with
  | .inr (.inl k) :: as => cond (Nat.beq (zcl k) ci && Nat.ble n st.length && Nat.ble (st.drop n).length 4 && Nat.ble (zlay (zR k :: as)).length nl) (some (Sum.inr (Sum.inr (Sum.inl (m, zR k :: as, nl, rk, (nx, ls, st.drop n, σ)))))) none
  | _ => none
def o_max (nx : Nat) : zOp := fun ls st σ => match st with
  | .inl y :: .inl x :: r => cond (Nat.ble r.length 6) (zGo nx ls (zI (max x y) :: r) σ) none
  | _ => none
def o_min (nx : Nat) : zOp := fun ls st σ => match st with
  | .inl y :: .inl x :: r => cond (Nat.ble r.length 6) (zGo nx ls (zI (min x y) :: r) σ) none
  | _ => none
def o_copy (nx : Nat) : zOp := fun ls st σ => match st with
  | .inl n :: .inl dp :: .inr (.inl d) :: .inl sp :: .inr (.inl a) :: r => if sp = 0 ∧ dp = 0 ∧ 0 < n ∧ n ≤ zal a ∧ n ≤ zal d ∧ r = [] then zGo nx ls r (zcp σ a d n.toNat) else none
  | _ => none
def zsw (x : Int) (l : List (Int × Nat)) (d : Nat) : Nat := match l with
  | [] => d
  | (a, t) :: r => if x = a then t else zsw x r d
def o_sw (l : List (Int × Nat)) (d : Nat) : zOp := fun ls st σ => match st with
  | .inl x :: r => zGo (zsw x l d) ls r σ
  | _ => none
def o_ret : zOp := fun _ st σ => match st with
  | [] => some (Sum.inr (Sum.inl (none, σ)))
  | _ => none
def o_iret : zOp := fun _ st σ => match st with
  | [.inl x] => some (Sum.inr (Sum.inl (some (zI x), σ)))
  | _ => none
/-- the answer of a boolean method -/
def o_zret : zOp := fun _ st σ => match st with
  | [.inl x] => if x = 0 ∨ x = 1 then some (Sum.inr (Sum.inl (some (zI x), σ))) else none
  | _ => none
def o_lret : zOp := fun _ st σ => match st with
  | [.inr (.inr x)] => some (Sum.inr (Sum.inl (some (zL x), σ)))
  | _ => none
def o_thr (e : Nat) : zOp := fun _ st σ => match st with
  | [] => some (Sum.inr (Sum.inr (Sum.inr ((e, []), σ))))
  | _ => none
/-- the run stops here: the law goes on by hand -/
def o_stp (e : Nat) : zOp := fun ls st σ => match st with
  | [] => some (Sum.inr (Sum.inr (Sum.inr ((1000 + e, ls), σ))))
  | _ => none
/-- the bits that two ints share; an int shifted to the right -/
def zan (x y : Int) : Int := (Int32.ofInt x &&& Int32.ofInt y).toInt
def zsh (x y : Int) : Int := (Int32.ofInt x >>> (Int32.ofInt y &&& 31)).toInt
def o_iand (nx : Nat) : zOp := fun ls st σ => match st with
  | .inl y :: .inl x :: r => zGo nx ls (zI (zan x y) :: r) σ
  | _ => none
def o_ishr (nx : Nat) : zOp := fun ls st σ => match st with
  | .inl y :: .inl x :: r => zGo nx ls (zI (zsh x y) :: r) σ
  | _ => none
def o_idiv (nx : Nat) : zOp := fun ls st σ => match st with
  | .inl y :: .inl x :: r => if 0 ≤ x ∧ (0 : Int) < y then zGo nx ls (zI (x / y) :: r) σ else none
  | _ => none
def o_irem (nx : Nat) : zOp := fun ls st σ => match st with
  | .inl y :: .inl x :: r => if 0 ≤ x ∧ (0 : Int) < y then zGo nx ls (zI (x % y) :: r) σ else none
  | _ => none
def o_dup_x2 (nx : Nat) : zOp := fun ls st σ => match st with
  | a :: b :: d :: r => cond (zc1 a && zc1 b && zc1 d) (zGo nx ls (a :: b :: d :: a :: r) σ) none
  | _ => none
/-- a leaf of a table -/
def zlf (pc k : Nat) (f : zOp) : zOp := cond (Nat.beq pc k) f o_no
def znd (pc k : Nat) (f g : zOp) : zOp := cond (Nat.ble pc k) f g
def zpad (n : Nat) (l : zLc) : zLc := l ++ List.replicate (n - l.length) none
abbrev zOut : Type := (Option zVal × zSt) ⊕ ((Nat × zLc) × zSt)
def zrk (rk : Nat) (v : Option zVal) : Option (List zVal) := match rk, v with
  | 0, none => some []
  | 1, some (.inl x) => some [zI x]
  | 2, some (.inr (.inr x)) => some [zL x]
  | _, _ => none
