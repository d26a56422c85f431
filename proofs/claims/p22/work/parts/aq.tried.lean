/-! ===== which pairs cases try ===== -/
theorem s_dig {n0 n1 n2 a0 a1 a2 : Int} (h0 : 0 ≤ a0 ∧ a0 < n0) (h1 : 0 ≤ a1 ∧ a1 < n1) (h2 : 0 ≤ a2 ∧ a2 < n2) : (0 ≤ a2 + n2 * (a1 + n1 * a0) ∧ a2 + n2 * (a1 + n1 * a0) < n0 * n1 * n2) ∧ (a2 + n2 * (a1 + n1 * a0)) / (n2 * n1) = a0 ∧ (a2 + n2 * (a1 + n1 * a0)) / n2 % n1 = a1 ∧ (a2 + n2 * (a1 + n1 * a0)) % n2 = a2 := by
  have e1 : (a2 + n2 * (a1 + n1 * a0)) / n2 = a1 + n1 * a0 := by
    rw [Int.add_mul_ediv_left a2 (a1 + n1 * a0) (show n2 ≠ 0 by omega), Int.ediv_eq_zero_of_lt h2.1 h2.2, Int.zero_add]
  have e2 : (a1 + n1 * a0) / n1 = a0 := by
    rw [Int.add_mul_ediv_left a1 a0 (show n1 ≠ 0 by omega), Int.ediv_eq_zero_of_lt h1.1 h1.2, Int.zero_add]
  have p1 : 0 ≤ n1 * a0 := Int.mul_nonneg (by omega) h0.1
  have p2 : 0 ≤ n2 * (a1 + n1 * a0) := Int.mul_nonneg (by omega) (by omega)
  have q1 : n1 * a0 ≤ n1 * (n0 - 1) := Int.mul_le_mul_of_nonneg_left (by omega) (by omega)
  have q2 : n2 * (a1 + n1 * a0) ≤ n2 * (n1 * n0 - 1) := Int.mul_le_mul_of_nonneg_left (by rw [Int.mul_sub, Int.mul_one] at q1; omega) (by omega)
  have q3 : n0 * n1 * n2 = n2 * (n1 * n0) := by grind
  refine ⟨⟨by omega, ?_⟩, ?_, ?_, ?_⟩
  · rw [Int.mul_sub, Int.mul_one] at q2
    omega
  · rw [← Int.ediv_ediv_of_nonneg (by omega), e1, e2]
  · rw [e1, Int.add_mul_emod_self_left, Int.emod_eq_of_lt h1.1 h1.2]
  · rw [Int.add_mul_emod_self_left, Int.emod_eq_of_lt h2.1 h2.2]
