/-! ===== scanning, in the model ===== -/
section MS
variable {d m : Nat} {B : Int → Int} {w : bm_W} {Φ : bm_Rt → bm_W → Prop}
theorem t_wk_rng (v : Int) : 3 ≤ t_wk v ∧ t_wk v ≤ 15 := by unfold t_wk; grind (splits := 40)
theorem t_sk_rng (b c : Int) : t_sk b c = 1 ∨ 16 ≤ t_sk b c ∧ t_sk b c ≤ 33 := by unfold t_sk; grind (splits := 60)
end MS
theorem t_k_rng (B : Int → Int) (p : Int) : 0 ≤ t_k B p ∧ t_k B p ≤ 33 := by
  unfold t_k
  have := t_wk_rng (t_wval B 1501 p 0)
  have := t_sk_rng (B p) (B (p + 1))
  grind
