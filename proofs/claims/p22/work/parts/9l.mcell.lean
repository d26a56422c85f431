/-! ===== the model: meaning of cells ===== -/
/-- fair ranges of inputs -/
def y_fk (ins : List y_in) : Prop := ∀ i, i < ins.length → -20 ≤ (ins.getD i y_i0).2.1 ∧ (ins.getD i y_i0).2.1 ≤ (ins.getD i y_i0).2.2 ∧ (ins.getD i y_i0).2.2 ≤ 20
section MN
variable {d m N p q f x c : Nat} {B : Int → Int} {w : bm_W} {Φ : bm_Rt → bm_W → Prop} {ins : List y_in}
end MN
