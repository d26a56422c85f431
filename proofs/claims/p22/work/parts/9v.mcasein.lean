/-! ===== cases of tables, in the model ===== -/
/-- the row of a case, and the case's number in it -/
def s_at : List y_rw → Int → Nat × Int
  | [], k => (0, k)
  | R :: l, k => if k < y_cs R.1 then (0, k) else ((s_at l (k - y_cs R.1)).1 + 1, (s_at l (k - y_cs R.1)).2)
theorem s_at_c {R : y_rw} {l : List y_rw} {k : Int} : s_at (R :: l) k = if k < y_cs R.1 then (0, k) else ((s_at l (k - y_cs R.1)).1 + 1, (s_at l (k - y_cs R.1)).2) := rfl
section MV
variable {d m k f n r : Nat} {B : Int → Int} {w : bm_W} {Φ : bm_Rt → bm_W → Prop} {rows : List y_rw}
end MV
