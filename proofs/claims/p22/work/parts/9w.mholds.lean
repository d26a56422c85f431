/-! ===== runs of functions, whether a case holds, in the model ===== -/
/-- whether a row admits what came out -/
def s_ad (R : y_rw) (v : Option Int) : Int := match v with
  | none => if R.2.1 = 15 then 1 else 0
  | some x => if R.2.1 = 15 then 0 else if R.2.1 = 14 ∨ t_rel R.2.1 x R.2.2 then 1 else 0
/-- the inputs of a case -/
def s_in (rows : List y_rw) (index : Int) (i : Nat) : Int := s_val (rows.getD (s_at rows index).1 y_r0).1 (s_at rows index).2 i
section MV
variable {d m k f n g : Nat} {ch : Int} {B : Int → Int} {w : bm_W} {Φ : bm_Rt → bm_W → Prop} {rows : List y_rw} {F : y_fn}
end MV
