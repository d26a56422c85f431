/-! ===== what is told of functions, on both sides ===== -/
/-- what is told of a function -/
def y_ft (pr : y_pr) (f : Nat) (what : Int) : Int := if what = 0 then ((pr.1.getD f y_f0).2.1.length : Int) else if what = 1 then ((pr.1.getD f y_f0).2.2.1 : Int) else if what = 2 then y_tof pr (f : Int) pr.2.length else if what = 3 then y_cs (y_rg (pr.1.getD f y_f0).2.1) else if what = 4 then y_prs (pr.1.getD f y_f0).2.1 else u_tot (u_M pr f (pr.1.getD f y_f0).2.1 pr.2.length)
section FU
variable {d b t m f : Nat} {B : Int → Int} {pr : y_pr} {w w' : bm_W} {Φ : bm_Rt → bm_W → Prop}
theorem cO.un {w' : bm_W} (hf : q_fr (fun x => t + 118 ≤ x ∧ x ≤ t + 121) w w') : cO t 0 0 w w' := q_gw.of (hf.mo (fun a z => Or.inr (by omega)))
theorem co_funU {x what : Int} (h : cZ b t B pr w) (hin : y_inr pr) (q1 : (0 ≤ x ∧ x < (pr.1.length : Int)) ∧ 0 ≤ what ∧ what ≤ 5 → ∀ w', q_fr (fun x => t + 118 ≤ x ∧ x ≤ t + 121) w w' → cZ b t B pr w' → Φ (.inl (some (bm_i (y_ft pr x.toNat what)))) w') (q0 : ¬ ((0 ≤ x ∧ x < (pr.1.length : Int)) ∧ 0 ≤ what ∧ what ≤ 5) → Φ (.inr "java/lang/IndexOutOfBoundsException") (bm_tw w)) : bm_Call bm_pg (d + 5) y_X11_fun [bm_r (some b), bm_i x, bm_i what] w Φ := by
  have c1 := h.1.1
  have S := h.2.1.1
  refine vc_X11_fun ⟨c1.2.1, h.exF (d := d + 2) (fun c => ?_) (fun c => q0 (fun z => c z.1))⟩
  rw [bm_c3_v]
  obtain ⟨f, rfl⟩ : ∃ f : Nat, x = (f : Int) := ⟨x.toNat, by omega⟩
  have hf : f < pr.1.length := by omega
  have fn := h.2.2.1.2.2 f hf
  have SF := S.2.2.2.1.fn (f : Int)
  have gl := fn.2.1.rgl SF
  rw [Int.toNat_natCast] at q1
  unfold y_ft at q1
  by_cases cw : 0 ≤ what ∧ what ≤ 5
  · have q1 := q1 ⟨c, cw⟩
    rcases (show what = 0 ∨ what = 1 ∨ what = 2 ∨ what = 3 ∨ what = 4 ∨ what = 5 by omega) with rfl | rfl | rfl | rfl | rfl | rfl
    · rw [if_pos rfl] at q1 ⊢
      rw [fn.2.1.1]
      exact ⟨SF.1, q1 w q_fr.rf h⟩
    · rw [if_neg (by decide), if_pos rfl] at q1 ⊢
      rw [fn.2.2.2.1]
      exact ⟨SF.1, q1 w q_fr.rf h⟩
    · rw [if_neg (by decide), if_neg (by decide), if_pos rfl] at q1 ⊢
      simp only [bm_c0_v, bm_c1_v, bm_c2_v, bm_c3_v, bm_c4_v, bm_c5_v, bm_u_some, decide_eq_true_eq, true_and, and_true, and_self, Bool.not_eq_true, Bool.not_eq_true', decide_eq_false_iff_not, if_true, if_false, ite_true, ite_false, eq_self, c1.2.1, c1.2.2.2.2.1, S.2.2.2.1.1]
      refine vc_X3_tablesOf (ct_of4 (d := d + 2) h ?_ pr.2.length 0 (by omega))
      rw [bm_c1_v]
      exact q1 w q_fr.rf h
    · rw [if_neg (by decide), if_neg (by decide), if_neg (by decide), if_pos rfl] at q1 ⊢
      simp only [bm_c0_v, bm_c1_v, bm_c2_v, bm_c3_v, bm_c4_v, bm_c5_v, bm_u_some, decide_eq_true_eq, true_and, and_true, and_self, Bool.not_eq_true, Bool.not_eq_true', decide_eq_false_iff_not, if_true, if_false, ite_true, ite_false, eq_self, SF.1, SF.2.2.1, SF.rg.1, sp_rc (d := d + 1) gl]
      exact q1 w q_fr.rf h
    · rw [if_neg (by decide), if_neg (by decide), if_neg (by decide), if_neg (by decide), if_pos rfl] at q1 ⊢
      simp only [bm_c0_v, bm_c1_v, bm_c2_v, bm_c3_v, bm_c4_v, bm_c5_v, bm_u_some, decide_eq_true_eq, true_and, and_true, and_self, Bool.not_eq_true, Bool.not_eq_true', decide_eq_false_iff_not, if_true, if_false, ite_true, ite_false, eq_self, SF.1, sp_pairCount (d := d + 1) fn.2.1 SF]
      exact q1 w q_fr.rf h
    · rw [if_neg (by decide), if_neg (by decide), if_neg (by decide), if_neg (by decide), if_neg (by decide)] at q1
      rw [if_neg (by decide), if_neg (by decide), if_neg (by decide), if_neg (by decide), if_neg (by decide), if_pos rfl]
      refine ⟨c1.2.1, h.findUntried (d := d) hf hin (fun w2 Z2 M2 _ F2 => ?_)⟩
      rw [bm_c0_v]
      have d1 := Z2.1.1
      simp only [bm_c0_v, bm_c1_v, bm_c2_v, bm_c3_v, bm_c4_v, bm_c5_v, bm_u_some, decide_eq_true_eq, true_and, and_true, and_self, Bool.not_eq_true, Bool.not_eq_true', decide_eq_false_iff_not, if_true, if_false, ite_true, ite_false, eq_self, d1.2.1, d1.2.2.2.2.2.2.2.2.1, d1.2.2.2.2.2.2.2.2.2.2.2.2.1, sp_unpairs (d := d + 1) d1.2.2.2.2.2.2.2.2.2.2.2.2 M2]
      exact q1 w2 F2 Z2
  · rw [if_neg (by omega), if_neg (by omega), if_neg (by omega), if_neg (by omega), if_neg (by omega), if_neg (by omega)]
    exact q0 (fun z => cw z.2)
theorem co_fun {x what : Int} (h : cZ b t B pr w) (hin : y_inr pr) (q1 : (0 ≤ x ∧ x < (pr.1.length : Int)) ∧ 0 ≤ what ∧ what ≤ 5 → ∀ w', cO t 0 0 w w' → cZ b t B pr w' → Φ (.inl (some (bm_i (y_ft pr x.toNat what)))) w') (q0 : ¬ ((0 ≤ x ∧ x < (pr.1.length : Int)) ∧ 0 ≤ what ∧ what ≤ 5) → Φ (.inr "java/lang/IndexOutOfBoundsException") (bm_tw w)) : bm_Call bm_pg (d + 5) y_X11_fun [bm_r (some b), bm_i x, bm_i what] w Φ :=
  co_funU (d := d) h hin (fun a w' F Z => q1 a w' (cO.un F) Z) q0
end FU
