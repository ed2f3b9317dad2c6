/-! ===== 36: copies on the model's side; restore ===== -/
/-- row D with n numbers of A from a, set from d on -/
def cpw (A : Row) (a : Nat) (D : Row) (d n : Nat) : Row := fun x => if d ≤ x ∧ x < d + n then A (a + (x - d)) else D x
theorem cpw_0 {A D : Row} {a d : Nat} : cpw A a D d 0 = D := by
  funext x
  unfold cpw
  rw [if_neg (by omega)]
/-- the saved rows, one place down -/
def dnw (D : Row) (n : Nat) : Row := fun x => if x < n then D (x + 161) else D x
theorem dnw_0 {D : Row} : dnw D 0 = D := by
  funext x
  unfold dnw
  rw [if_neg (by omega)]
/-- the stack after a saving -/
def psh (c : Nat) (D S : Row) : Row := if c = 4 then cpw S 0 (dnw D 483) 483 161 else cpw S 0 D (161 * c) 161
/-- the row that comes back -/
def undS (S X : Row) : Row := fun x => if x < 161 then X x else S x
theorem undS_req {S X : Row} : Req X (undS S X) := fun k hk => by
  unfold undS
  rw [if_pos hk]
