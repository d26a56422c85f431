/-! ===== pairs are marked, in the model ===== -/
/-- where a pair stands -/
def u_ps (b : Nat) (x y : Int) : Nat := b * 1681 + (x + 20).toNat * 41 + (y + 20).toNat
/-- places of pairs that U tells -/
def u_TT (n : Nat) (U : Nat → Int → Int → Bool) (k : Nat) : Bool := (if n = 1 then decide (k / 1681 = 0) else decide (1 ≤ k / 1681 ∧ (n = 3 ∨ k / 1681 = 1))) && U (k / 1681 - 1) (((k % 1681 / 41 : Nat) : Int) - 20) (((k % 41 : Nat) : Int) - 20)
section MK
variable {d m f n a : Nat} {B : Int → Int} {w : bm_W} {Φ : bm_Rt → bm_W → Prop} {T : Nat → Bool}
end MK
