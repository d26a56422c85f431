/-! ===== changes that a table finds, in the model ===== -/
theorem s_ft_iff {D : q_D} {rows : List y_rw} {x : Option Nat} {p : Nat} : ∀ n : Nat, s_ft D rows x p n = true ↔ ∃ i : Nat, i < n ∧ x ≠ some i ∧ s_fw D (rows.getD i y_r0) p = true
  | 0 => ⟨fun h => (by cases h), fun ⟨k, h, _⟩ => (by omega)⟩
  | n + 1 => by
    show (s_ft D rows x p n || (decide (x ≠ some n) && s_fw D (rows.getD n y_r0) p)) = true ↔ _
    rw [Bool.or_eq_true, Bool.and_eq_true, decide_eq_true_eq, s_ft_iff n]
    constructor
    · rintro (⟨k, h, h2⟩ | h)
      · exact ⟨k, by omega, h2⟩
      · exact ⟨n, by omega, h⟩
    · rintro ⟨k, h, h2⟩
      by_cases z : k = n
      · subst z
        exact Or.inr h2
      · exact Or.inl ⟨k, by omega, h2⟩
/-- how many changes are found -/
def s_fn (D : q_D) (rows : List y_rw) (P : Nat) : Int := u_c (fun p => s_ft D rows none p rows.length) P
section FD
variable {d b t m k : Nat} {B : Int → Int} {pr : y_pr} {w w' : bm_W} {Φ : bm_Rt → bm_W → Prop}
/-- whether a change is there -/
abbrev y_ich (pr : y_pr) (x p : Int) : Prop := (0 ≤ x ∧ x < (pr.2.length : Int)) ∧ 0 ≤ p ∧ p < ((y_tF pr x.toNat).2.2.1 : Int)
theorem sc_n64 : ∀ b, b < 51 → ∀ a, a < 51 → 1 ≤ b → vf_n64 (FP.ddiv (FP.i2d (Int32.ofInt ((a : Nat) : Int))) (FP.i2d (Int32.ofInt ((b : Nat) : Int)))) := by
  unfold vf_n64
  decide +kernel
end FD
