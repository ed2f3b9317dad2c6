/-! ===== 24: the model's fill comes to fillM ===== -/
theorem er_eq {S : Row} {j o : Nat} {moment t : Int} (h : Lst S (5 * j + o) (bse S j o moment) t) : er S j o moment = t := LstF_eq h
theorem fB_pos {S : Row} {rule moment : Int} {j : Nat} {a : Int × Int × Int} (hc : nxt S j < nO S j ∧ (a.1 = -1 ∨ er S j (nxt S j) moment < a.2.1 ∨ (er S j (nxt S j) moment = a.2.1 ∧ rk S rule j (nxt S j) < a.2.2))) : fB S rule moment j a = ((j : Int), er S j (nxt S j) moment, rk S rule j (nxt S j)) := by
  unfold fB; rw [if_pos hc]
theorem fB_neg {S : Row} {rule moment : Int} {j : Nat} {a : Int × Int × Int} (hc : ¬ (nxt S j < nO S j ∧ (a.1 = -1 ∨ er S j (nxt S j) moment < a.2.1 ∨ (er S j (nxt S j) moment = a.2.1 ∧ rk S rule j (nxt S j) < a.2.2)))) : fB S rule moment j a = a := by
  unfold fB; rw [if_neg hc]
