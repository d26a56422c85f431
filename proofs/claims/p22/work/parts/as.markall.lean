/-! ===== all pairs that are tried, in the model ===== -/
theorem s_val_no {l : List (Int × Int)} {k : Int} {i : Nat} (h : y_lk l) (hi : l.length ≤ i) : s_val l k i = 0 := by
  have v := s_val_rng (k := k) (i := i) h
  have e : l.getD i (0, 0) = (0, 0) := by rw [List.getD_eq_getElem?_getD, List.getElem?_eq_none hi]; rfl
  rw [e] at v
  simp only at v
  omega
section MA
variable {d m f : Nat} {B : Int → Int} {pr : y_pr} {w : bm_W} {Φ : bm_Rt → bm_W → Prop}
end MA
