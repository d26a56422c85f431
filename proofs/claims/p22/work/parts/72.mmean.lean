/-! ===== the meaning of expressions, in the model: what holds meanwhile ===== -/
/-- the nodes ahead of i are the same -/
def nb (m i : Nat) (w w0 : bm_W) : Prop := ∀ a j, m + 7 ≤ a → a ≤ m + 12 → j < i → bm_gi w0 a j = bm_gi w a j
section MF
variable {m F c c' : Nat} {w w' w2 : bm_W}
end MF
section QN
variable {m F c : Nat} {E : q_E} {w w' : bm_W}
end QN
