/-! ===== the model: names; what is kept of items ===== -/
/-! what is kept of functions and tables -/
/-- a fair row for n inputs -/
def y_rk (n : Nat) (R : y_rw) : Prop := R.1.length = n ∧ (∀ c, c < n → -20 ≤ (R.1.getD c (0, 0)).1 ∧ (R.1.getD c (0, 0)).1 ≤ (R.1.getD c (0, 0)).2 ∧ (R.1.getD c (0, 0)).2 ≤ 20) ∧ (R.2.1 = 14 ∨ R.2.1 = 15 ∨ (22 ≤ R.2.1 ∧ R.2.1 ≤ 27))
