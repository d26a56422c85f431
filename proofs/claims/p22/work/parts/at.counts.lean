/-! ===== pairs are counted alike ===== -/
section CT
variable {ins : List y_in} {U : Nat → Int → Int → Bool}
theorem u_lo_rng (hk : y_fk ins) (i : Nat) : -20 ≤ u_lo ins i ∧ 1 ≤ s_n (y_rg ins) i ∧ u_lo ins i + s_n (y_rg ins) i ≤ 21 := by
  have lk := y_rg_lk hk
  have n := s_n_rng lk i
  have e : s_n (y_rg ins) i = ((y_rg ins).getD i (0, 0)).2 - ((y_rg ins).getD i (0, 0)).1 + 1 := rfl
  unfold u_lo
  rcases Nat.lt_or_ge i (y_rg ins).length with z | z
  · have := lk i z
    omega
  · have e2 : (y_rg ins).getD i (0, 0) = (0, 0) := by rw [List.getD_eq_getElem?_getD, List.getElem?_eq_none z]; rfl
    rw [e2] at e ⊢
    simp only at e ⊢
    omega
end CT
