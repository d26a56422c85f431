/-! ===== calls, in the model ===== -/
section MK
variable {d m g a : Nat} {ch x y z : Int} {B : Int → Int} {pr : y_pr} {w : bm_W} {Φ : bm_Rt → bm_W → Prop}
/-- not too many places -/
def y_pls (pr : y_pr) : Prop := ∀ g, g < pr.1.length → (pr.1.getD g y_f0).2.2.1 ≤ 50
abbrev y_D (pr : y_pr) (g : Nat) : q_D := (pr.1.getD g y_f0).2.2.2.2
end MK
