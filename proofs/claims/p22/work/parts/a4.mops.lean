/-! ===== the model's answers: tables ===== -/
/-- what a table tells -/
def y_told (pr : y_pr) (k : Nat) (what : Int) : Int := if what = 0 then ((pr.2.getD k y_t0).2.1 : Int) else if what = 1 then ((pr.2.getD k y_t0).2.2.length : Int) else if what = 2 then y_ct (pr.2.getD k y_t0).2.2 else if what = 3 then s_cnt (y_h pr k) (y_ct (pr.2.getD k y_t0).2.2).toNat else s_fst (y_h pr k) 0 (y_ct (pr.2.getD k y_t0).2.2).toNat
section MO
variable {d m : Nat} {B : Int → Int} {pr : y_pr} {w w' : bm_W} {Φ : bm_Rt → bm_W → Prop}
/-- whether a case is there -/
abbrev y_isc (pr : y_pr) (x k : Int) : Prop := 0 ≤ x ∧ x < (pr.2.length : Int) ∧ 0 ≤ k ∧ k < y_ct (pr.2.getD x.toNat y_t0).2.2
end MO
