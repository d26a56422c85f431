/-! ===== counts ===== -/
/-- cases of the first tables; how many of them are a function's -/
def y_tot (pr : y_pr) : Nat → Int
  | 0 => 0
  | m + 1 => y_tot pr m + y_ct (pr.2.getD m y_t0).2.2
def y_tof (pr : y_pr) (f : Int) : Nat → Int
  | 0 => 0
  | m + 1 => y_tof pr f m + if ((pr.2.getD m y_t0).2.1 : Int) = f then 1 else 0
theorem y_tof_rng (pr : y_pr) (f : Int) : ∀ m : Nat, 0 ≤ y_tof pr f m ∧ y_tof pr f m ≤ m
  | 0 => ⟨Int.le_refl _, Int.le_refl _⟩
  | m + 1 => by
    have := y_tof_rng pr f m
    unfold y_tof
    split <;> omega
theorem y_tot_rng {pr : y_pr} (h : ∀ k, k < pr.2.length → 0 ≤ y_ct (pr.2.getD k y_t0).2.2 ∧ y_ct (pr.2.getD k y_t0).2.2 ≤ 100) : ∀ m : Nat, m ≤ pr.2.length → 0 ≤ y_tot pr m ∧ y_tot pr m ≤ 100 * m
  | 0, _ => ⟨Int.le_refl _, Int.le_refl _⟩
  | m + 1, hm => by
    have := y_tot_rng h m (by omega)
    have := h m (by omega)
    unfold y_tot
    omega
/-- what count tells -/
def y_cnt (pr : y_pr) (nI : Nat) (len what : Int) : Int := if what = 0 then (pr.1.length : Int) else if what = 1 then (pr.2.length : Int) else if what = 2 then (nI : Int) else if what = 3 then y_tot pr pr.2.length else len
section CN
variable {d b t m : Nat} {B : Int → Int} {pr : y_pr} {w w' : bm_W} {Φ : bm_Rt → bm_W → Prop}
theorem cZ.ct (h : cZ b t B pr w) : ∀ k, k < pr.2.length → 0 ≤ y_ct (pr.2.getD k y_t0).2.2 ∧ y_ct (pr.2.getD k y_t0).2.2 ≤ 100 := fun k hk => by
  have Z := h.2.1.2.2.2 k hk
  exact ⟨y_ct_nn _ (fun i hi => (Z.cs i hi).1), Z.2.2.2.2.1.2.2.2.1⟩
theorem cc_4 (h : cZ b t B pr w) (hq : Φ (.inl (some (bm_i (y_tot pr pr.2.length)))) w) : ∀ (rem k : Nat), k + rem = pr.2.length → bk_X3_caseCount_4 (d + 1) Φ (t + 4) (y_tot pr k) (k : Int) w
  | 0, k, hk => by
    have S := h.2.1.1.2.2.2.1
    refine vb_X3_caseCount_4 ?_
    simp only [S.1, true_and, h.2.1.2.1]
    rw [if_pos (decide_eq_true (by omega))]
    have : k = pr.2.length := by omega
    rw [this]
    exact hq
  | rem + 1, k, hk => by
    have S := h.2.1.1.2.2.2.1
    have l6 := h.2.1.2.2.1
    have Z := h.2.1.2.2.2 k (by omega)
    have r := y_tot_rng h.ct k (by omega)
    have c := h.ct k (by omega)
    refine vb_X3_caseCount_4 ?_
    simp only [S.1, true_and, h.2.1.2.1, sp_tableAt (d := d) S, bm_c3_v, Z.2.1.1, Z.2.2.2.2.1.2.2.1, bm_w1 (show k < 2147483647 by omega), q_wI (x := y_tot pr k + y_ct (pr.2.getD k y_t0).2.2) ⟨by omega, by omega⟩]
    rw [if_neg (fun y => by have := of_decide_eq_true y; omega)]
    exact cc_4 h hq rem (k + 1) (by omega)
theorem ct_of4 {f : Int} (h : cZ b t B pr w) (hq : Φ (.inl (some (bm_i (y_tof pr f pr.2.length)))) w) : ∀ (rem k : Nat), k + rem = pr.2.length → bk_X3_tablesOf_4 (d + 1) Φ (t + 4) f (y_tof pr f k) (k : Int) w
  | 0, k, hk => by
    have S := h.2.1.1.2.2.2.1
    refine vb_X3_tablesOf_4 ?_
    simp only [S.1, true_and, h.2.1.2.1]
    rw [if_pos (decide_eq_true (by omega))]
    have : k = pr.2.length := by omega
    rw [this]
    exact hq
  | rem + 1, k, hk => by
    have S := h.2.1.1.2.2.2.1
    have l6 := h.2.1.2.2.1
    have Z := h.2.1.2.2.2 k (by omega)
    have r := y_tof_rng pr f k
    have e : y_tof pr f (k + 1) = y_tof pr f k + if ((pr.2.getD k y_t0).2.1 : Int) = f then 1 else 0 := rfl
    have ih := ct_of4 (f := f) h hq rem (k + 1) (by omega)
    refine vb_X3_tablesOf_4 ?_
    simp only [bm_c0_v, bm_c1_v, bm_c2_v, bm_c3_v, bm_c4_v, bm_c5_v, bm_u_some, decide_eq_true_eq, true_and, and_true, and_self, Bool.not_eq_true, Bool.not_eq_true', decide_eq_false_iff_not, if_true, if_false, ite_true, ite_false, eq_self, S.1, h.2.1.2.1, sp_tableAt (d := d) S, bm_c3_v, Z.2.1.1, Z.2.2.1, bm_w1 (show k < 2147483647 by omega), q_wI (x := y_tof pr f k + 1) ⟨by omega, by omega⟩]
    rw [if_neg (by omega)]
    by_cases c : ((pr.2.getD k y_t0).2.1 : Int) = f
    · rw [if_pos c] at e
      rw [e] at ih
      rw [if_neg (fun y => y c)]
      exact ih
    · rw [if_neg c, Int.add_zero] at e
      rw [e] at ih
      rw [if_pos c]
      exact ih
theorem co_count {nI : Nat} {x : Int} (h : cZ b t B pr w) (hI : bm_gi w (t + 4) 6 = (nI : Int)) (q1 : 0 ≤ x ∧ x ≤ 4 → Φ (.inl (some (bm_i (y_cnt pr nI (bm_gi w (b + 1) 1) x)))) w) (q0 : ¬ (0 ≤ x ∧ x ≤ 4) → Φ (.inr "java/lang/IndexOutOfBoundsException") (bm_tw w)) : bm_Call bm_pg (d + 3) y_X11_count [bm_r (some b), bm_i x] w Φ := by
  have c1 := h.1.1
  have S := h.2.1.1.2.2.2.1
  have tp := h.1.2.1.2.2.1
  refine vc_X11_count ?_
  unfold y_cnt at q1
  by_cases c : 0 ≤ x ∧ x ≤ 4
  · have q1 := q1 c
    rcases (show x = 0 ∨ x = 1 ∨ x = 2 ∨ x = 3 ∨ x = 4 by omega) with rfl | rfl | rfl | rfl | rfl
    · rw [if_pos rfl] at q1 ⊢
      simp only [bm_c0_v, bm_c1_v, bm_c2_v, bm_c3_v, bm_c4_v, bm_c5_v, bm_u_some, decide_eq_true_eq, true_and, and_true, and_self, Bool.not_eq_true, Bool.not_eq_true', decide_eq_false_iff_not, if_true, if_false, ite_true, ite_false, eq_self, c1.2.1, c1.2.2.2.2.1, S.1, h.2.2.1.1]
      exact q1
    · rw [if_neg (by decide), if_pos rfl] at q1 ⊢
      simp only [bm_c0_v, bm_c1_v, bm_c2_v, bm_c3_v, bm_c4_v, bm_c5_v, bm_u_some, decide_eq_true_eq, true_and, and_true, and_self, Bool.not_eq_true, Bool.not_eq_true', decide_eq_false_iff_not, if_true, if_false, ite_true, ite_false, eq_self, c1.2.1, c1.2.2.2.2.1, S.1, h.2.1.2.1]
      exact q1
    · rw [if_neg (by decide), if_neg (by decide), if_pos rfl] at q1 ⊢
      simp only [bm_c0_v, bm_c1_v, bm_c2_v, bm_c3_v, bm_c4_v, bm_c5_v, bm_u_some, decide_eq_true_eq, true_and, and_true, and_self, Bool.not_eq_true, Bool.not_eq_true', decide_eq_false_iff_not, if_true, if_false, ite_true, ite_false, eq_self, c1.2.1, c1.2.2.2.2.1, S.1, hI]
      exact q1
    · rw [if_neg (by decide), if_neg (by decide), if_neg (by decide), if_pos rfl] at q1 ⊢
      simp only [bm_c0_v, bm_c1_v, bm_c2_v, bm_c3_v, bm_c4_v, bm_c5_v, bm_u_some, decide_eq_true_eq, true_and, and_true, and_self, Bool.not_eq_true, Bool.not_eq_true', decide_eq_false_iff_not, if_true, if_false, ite_true, ite_false, eq_self, c1.2.1, c1.2.2.2.2.1, S.1]
      refine vc_X3_caseCount ?_
      exact cc_4 h (by rw [bm_c1_v]; exact q1) pr.2.length 0 (by omega)
    · rw [if_neg (by decide), if_neg (by decide), if_neg (by decide), if_neg (by decide)] at q1
      rw [if_neg (by decide), if_neg (by decide), if_neg (by decide), if_neg (by decide), if_pos rfl]
      simp only [bm_c0_v, bm_c1_v, bm_c2_v, bm_c3_v, bm_c4_v, bm_c5_v, bm_u_some, decide_eq_true_eq, true_and, and_true, and_self, Bool.not_eq_true, Bool.not_eq_true', decide_eq_false_iff_not, if_true, if_false, ite_true, ite_false, eq_self, c1.2.1, c1.2.2.1, tp.1, sp_tlength (d := d + 1) tp]
      exact q1
  · rw [if_neg (by omega), if_neg (by omega), if_neg (by omega), if_neg (by omega), if_neg (by omega)]
    exact q0 c
end CN
