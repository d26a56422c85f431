/-! ===== the model: meaning of inputs ===== -/
theorem bm_wN {a b : Nat} (h : a + b < 2147483648) : bm_w ((a : Int) + (b : Int)) = ((a + b : Nat) : Int) := by rw [q_wI ⟨by omega, by omega⟩]; omega
theorem bm_w1 {a : Nat} (h : a < 2147483647) : bm_w ((a : Int) + 1) = ((a + 1 : Nat) : Int) := by rw [q_wI ⟨by omega, by omega⟩]; omega
section MN
variable {d m N p q F : Nat} {B : Int → Int} {w : bm_W} {Φ : bm_Rt → bm_W → Prop} {ins : List y_in}
end MN
