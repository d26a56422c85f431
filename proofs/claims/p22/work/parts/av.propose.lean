/-! ===== proposals, in the model ===== -/
/-- how many pairs of n values are not marked -/
def u_ow (n : Nat) (T : Nat → Bool) (v : Nat → Int) : Int := if n = 1 then 1 - bm_bo (T (u_ps 0 (v 0) 0)) else if n = 2 then 1 - bm_bo (T (u_ps 1 (v 0) (v 1))) else (1 - bm_bo (T (u_ps 1 (v 0) (v 1)))) + (1 - bm_bo (T (u_ps 2 (v 0) (v 2)))) + (1 - bm_bo (T (u_ps 3 (v 1) (v 2))))
section PO
variable {d m f n a : Nat} {B : Int → Int} {pr : y_pr} {ins : List y_in} {w : bm_W} {Φ : bm_Rt → bm_W → Prop} {T : Nat → Bool} {L : List (Int × Int)}
end PO
