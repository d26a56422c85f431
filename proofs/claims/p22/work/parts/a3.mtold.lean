/-! ===== what a table tells, in the model ===== -/
/-- how many of the first n hold; the first that doesn't -/
def s_cnt (h : Int → Int) : Nat → Int
  | 0 => 0
  | n + 1 => s_cnt h n + if h (n : Int) = 0 then 0 else 1
theorem s_cnt_rng (h : Int → Int) : ∀ n : Nat, 0 ≤ s_cnt h n ∧ s_cnt h n ≤ n
  | 0 => ⟨Int.le_refl _, Int.le_refl _⟩
  | n + 1 => by
    have := s_cnt_rng h n
    unfold s_cnt
    split <;> omega
def s_fst (h : Int → Int) : Nat → Nat → Int
  | _, 0 => -1
  | k, n + 1 => if h (k : Int) = 0 then (k : Int) else s_fst h (k + 1) n
section MT
variable {d m k : Nat} {B : Int → Int} {pr : y_pr} {w w' : bm_W} {Φ : bm_Rt → bm_W → Prop}
abbrev y_h (pr : y_pr) (k : Nat) (x : Int) : Int := s_hold (y_tF pr k).2.2.2.2 (pr.2.getD k y_t0).2.2 x (-1)
end MT
