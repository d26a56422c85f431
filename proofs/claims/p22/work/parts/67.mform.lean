/-! ===== the form of expressions, in the model ===== -/
/-- the model stands at token p -/
def fW (w0 : bm_W) (m p : Nat) : bm_W := bm_si w0 m 9 ((p : Nat) : Int)
section FM
variable {d m N L fst : Nat} {B : Int → Int} {w0 : bm_W} {Φ : bm_Rt → bm_W → Prop}
end FM
section FM
variable {m N L fst : Nat} {B : Int → Int} {w0 : bm_W}
theorem f_ex_true {K : Nat → Int} {n u d : Nat} {s : Bool × Nat} (h : s.1 = true) (hu : u ≤ 12) : f_ex K L n u d s = (true, s.2) := by
  obtain ⟨b, q⟩ := s
  cases h
  exact f_ex_fail n u d q hu
end FM
