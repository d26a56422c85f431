/-! ===== tokens of the model: is, isName, operator, nameOf, numberOf ===== -/
abbrev t_K (B : Int → Int) (n : Nat) : Int := t_k B (t_P B n)
abbrev t_V (B : Int → Int) (n : Nat) : Int := t_v B (t_P B n)
theorem q_ite {P Q : Prop} [Decidable P] [Decidable Q] (h : P ↔ Q) : (if P then (1 : Int) else 0) = (if Q then 1 else 0) := by
  by_cases c : P
  · rw [if_pos c, if_pos (h.mp c)]
  · rw [if_neg c, if_neg (fun z => c (h.mpr z))]
section MT
variable {d m N n : Nat} {B : Int → Int} {w : bm_W} {Φ : bm_Rt → bm_W → Prop}
theorem t_nend_fix {B : Int → Int} : ∀ (n : Nat) (p : Int), p ≤ t_nend B n p
  | 0, p => Int.le_refl _
  | n + 1, p => by
    unfold t_nend
    split
    · have := t_nend_fix (B := B) n (p + 1); omega
    · exact Int.le_refl _
end MT
