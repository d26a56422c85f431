/-! ===== the class's answers: tables ===== -/
/-- the class, a program compiled -/
def cZ (b t : Nat) (B : Int → Int) (pr : y_pr) (w : bm_W) : Prop := cI b t w ∧ zA t B pr w ∧ yfs t B pr.1 w ∧ (bm_gi w (t + 117) 2 = 0 ∨ (bm_gi w (t + 117) 2 = 1 ∧ zN t pr pr.2.length w)) ∧ bm_gi w (t + 113) 6 = 0
section CO
variable {d b t T g n : Nat} {B : Int → Int} {F : y_fn} {rows : List y_rw} {pr : y_pr} {w : bm_W} {Φ : bm_Rt → bm_W → Prop}
theorem sp_below {x y : Int} (q1 : 0 ≤ x ∧ x < y → Φ (.inl none) w) (q0 : ¬ (0 ≤ x ∧ x < y) → Φ (.inr "java/lang/IndexOutOfBoundsException") (bm_tw w)) : bm_Call bm_pg (d + 1) y_X11_requireBelow [bm_i x, bm_i y] w Φ := by
  refine vc_X11_requireBelow ?_
  by_cases c : x < 0
  · rw [if_pos (by simpa using c)]
    exact q0 (by omega)
  · rw [if_neg (by simpa using c)]
    by_cases c2 : x < y
    · rw [if_pos (by simpa using c2)]
      exact q1 ⟨by omega, c2⟩
    · rw [if_neg (by simpa using c2)]
      exact q0 (by omega)
theorem cZ.exT {x : Int} (h : cZ b t B pr w) (q1 : 0 ≤ x ∧ x < (pr.2.length : Int) → Φ (.inl (some (bm_r (some (pg_tb (t + 4) x))))) w) (q0 : ¬ (0 ≤ x ∧ x < (pr.2.length : Int)) → Φ (.inr "java/lang/IndexOutOfBoundsException") (bm_tw w)) : bm_Call bm_pg (d + 2) y_X11_existingTable [bm_r (some b), bm_i x] w Φ := by
  have c1 := h.1.1
  have S := h.2.1.1
  have l := h.2.1.2.1
  refine vc_X11_existingTable ?_
  simp only [bm_c0_v, bm_c1_v, bm_c2_v, bm_c3_v, bm_c4_v, bm_c5_v, bm_u_some, decide_eq_true_eq, true_and, and_true, and_self, Bool.not_eq_true, Bool.not_eq_true', decide_eq_false_iff_not, if_true, if_false, ite_true, ite_false, eq_self, c1.2.1, c1.2.2.2.2.1, S.2.2.2.1.1, l]
  refine sp_below (d := d) (fun c => ?_) (fun c => q0 c)
  rw [bm_c0_v]
  simp only [bm_c0_v, bm_c1_v, bm_c2_v, bm_c3_v, bm_c4_v, bm_c5_v, bm_u_some, decide_eq_true_eq, true_and, and_true, and_self, Bool.not_eq_true, Bool.not_eq_true', decide_eq_false_iff_not, if_true, if_false, ite_true, ite_false, eq_self, c1.2.1, c1.2.2.2.2.1, S.2.2.2.1.1, sp_tableAt (d := d) S.2.2.2.1, bm_c3_v]
  exact q1 c
theorem cZ.exF {x : Int} (h : cZ b t B pr w) (q1 : 0 ≤ x ∧ x < (pr.1.length : Int) → Φ (.inl (some (bm_r (some (pg_fn (t + 4) x))))) w) (q0 : ¬ (0 ≤ x ∧ x < (pr.1.length : Int)) → Φ (.inr "java/lang/IndexOutOfBoundsException") (bm_tw w)) : bm_Call bm_pg (d + 2) y_X11_existingFun [bm_r (some b), bm_i x] w Φ := by
  have c1 := h.1.1
  have S := h.2.1.1
  have l := h.2.2.1.1
  refine vc_X11_existingFun ?_
  simp only [bm_c0_v, bm_c1_v, bm_c2_v, bm_c3_v, bm_c4_v, bm_c5_v, bm_u_some, decide_eq_true_eq, true_and, and_true, and_self, Bool.not_eq_true, Bool.not_eq_true', decide_eq_false_iff_not, if_true, if_false, ite_true, ite_false, eq_self, c1.2.1, c1.2.2.2.2.1, S.2.2.2.1.1, l]
  refine sp_below (d := d) (fun c => ?_) (fun c => q0 c)
  rw [bm_c0_v]
  simp only [bm_c0_v, bm_c1_v, bm_c2_v, bm_c3_v, bm_c4_v, bm_c5_v, bm_u_some, decide_eq_true_eq, true_and, and_true, and_self, Bool.not_eq_true, Bool.not_eq_true', decide_eq_false_iff_not, if_true, if_false, ite_true, ite_false, eq_self, c1.2.1, c1.2.2.2.2.1, S.2.2.2.1.1, sp_funAt (d := d) S.2.2.2.1, bm_c3_v]
  exact q1 c
/-- notes of a table's cases -/
theorem hc_4 {h : Int → Int} (Z : zC t T g n B F rows w) (hN : ∀ j : Nat, (j : Int) < y_ct rows → bm_gi w (T + 6) j = h (j : Int)) (hq : Φ (.inl (some (bm_i (s_cnt h (y_ct rows).toNat)))) w) : ∀ (rem j : Nat), (j : Int) + rem = y_ct rows → bk_X7_holdingCount_4 (d + 1) Φ T (s_cnt h j) (j : Int) w
  | 0, j, hj => by
    have c6 := Z.2.2.2.2.1.2.2.1
    refine vb_X7_holdingCount_4 ?_
    simp only [Z.2.1.1, true_and, c6]
    rw [if_pos (by simp; omega)]
    have : (y_ct rows).toNat = j := by omega
    rw [this] at hq
    exact hq
  | rem + 1, j, hj => by
    have c6 := Z.2.2.2.2.1.2.2.1
    have ct := Z.2.2.2.2.1.2.2.2.1
    have rg := s_cnt_rng h j
    have e : s_cnt h (j + 1) = s_cnt h j + if h (j : Int) = 0 then 0 else 1 := rfl
    have ih := hc_4 Z hN hq rem (j + 1) (by omega)
    refine vb_X7_holdingCount_4 ?_
    simp only [Z.2.1.1, true_and, c6, sp_isHo (d := d) Z.2.1, bm_c1_v, bm_w1 (show j < 2147483647 by omega)]
    rw [if_neg (by simp; omega)]
    unfold tb_ho
    rw [Int.toNat_natCast, hN j (by omega)]
    by_cases c : h (j : Int) = 0
    · rw [if_pos c, Int.add_zero] at e
      rw [e] at ih
      rw [if_pos (by simp [c])]
      exact ih
    · rw [if_neg c] at e
      rw [e] at ih
      rw [if_neg (by simp [c]; omega), q_wI (x := s_cnt h j + 1) ⟨by omega, by omega⟩]
      exact ih
theorem fh_2 {h : Int → Int} (Z : zC t T g n B F rows w) (hN : ∀ j : Nat, (j : Int) < y_ct rows → bm_gi w (T + 6) j = h (j : Int)) : ∀ (rem j : Nat), (j : Int) + rem = y_ct rows → Φ (.inl (some (bm_i (s_fst h j rem)))) w → bk_X7_firstNotHolding_2 (d + 1) Φ T (j : Int) w
  | 0, j, hj, hq => by
    have c6 := Z.2.2.2.2.1.2.2.1
    refine vb_X7_firstNotHolding_2 ?_
    simp only [Z.2.1.1, true_and, c6]
    rw [if_pos (by simp; omega)]
    exact hq
  | rem + 1, j, hj, hq => by
    have c6 := Z.2.2.2.2.1.2.2.1
    have ct := Z.2.2.2.2.1.2.2.2.1
    have e : s_fst h j (rem + 1) = if h (j : Int) = 0 then (j : Int) else s_fst h (j + 1) rem := rfl
    rw [e] at hq
    refine vb_X7_firstNotHolding_2 ?_
    simp only [Z.2.1.1, true_and, c6, sp_isHo (d := d) Z.2.1, bm_c1_v, bm_w1 (show j < 2147483647 by omega)]
    rw [if_neg (by simp; omega)]
    unfold tb_ho
    rw [Int.toNat_natCast, hN j (by omega)]
    by_cases c : h (j : Int) = 0
    · rw [if_pos c] at hq
      rw [if_neg (by simp [c])]
      exact hq
    · rw [if_neg c] at hq
      rw [if_pos (by simp [c]; omega)]
      exact fh_2 Z hN rem (j + 1) (by omega) hq
theorem sp_told {k : Nat} {what : Int} (h : zA t B pr w) (hN : 3 ≤ what → zN t pr pr.2.length w) (hk : k < pr.2.length) (hw : 0 ≤ what ∧ what < 5) (hq : Φ (.inl (some (bm_i (y_told pr k what)))) w) : bm_Call bm_pg (d + 3) y_X7_tell [bm_r (some (pg_tb (t + 4) (k : Int))), bm_i what] w Φ := by
  have Z := h.2.2.2 k hk
  have c6 := Z.2.2.2.2.1.2.2.1
  have nn : 0 ≤ y_ct (pr.2.getD k y_t0).2.2 := y_ct_nn _ (fun i hi => (Z.cs i hi).1)
  refine vc_X7_tell ?_
  unfold y_told at hq
  rcases (show what = 0 ∨ what = 1 ∨ what = 2 ∨ what = 3 ∨ what = 4 by omega) with rfl | rfl | rfl | rfl | rfl
  · rw [if_pos rfl] at hq
    rw [if_pos rfl, Z.2.2.1]
    exact ⟨Z.2.1.1, hq⟩
  · rw [if_neg (by decide), if_pos rfl] at hq
    rw [if_neg (by decide), if_pos rfl, Z.2.2.2.2.1.1]
    exact ⟨Z.2.1.1, hq⟩
  · rw [if_neg (by decide), if_neg (by decide), if_pos rfl] at hq
    rw [if_neg (by decide), if_neg (by decide), if_pos rfl, c6]
    exact ⟨Z.2.1.1, hq⟩
  · rw [if_neg (by decide), if_neg (by decide), if_neg (by decide), if_pos rfl] at hq
    rw [if_neg (by decide), if_neg (by decide), if_neg (by decide), if_pos rfl]
    refine ⟨Z.2.1.1, vc_X7_holdingCount ?_⟩
    exact hc_4 (h := y_h pr k) Z ((hN (by decide)).1 k hk) (by rw [bm_c1_v]; exact hq) (y_ct (pr.2.getD k y_t0).2.2).toNat 0 (by omega)
  · rw [if_neg (by decide), if_neg (by decide), if_neg (by decide), if_neg (by decide)] at hq
    rw [if_neg (by decide), if_neg (by decide), if_neg (by decide), if_neg (by decide)]
    refine ⟨Z.2.1.1, vc_X7_firstNotHolding ?_⟩
    exact fh_2 (h := y_h pr k) Z ((hN (by decide)).1 k hk) (y_ct (pr.2.getD k y_t0).2.2).toNat 0 (by omega) (by rw [bm_c1_v]; exact hq)
end CO
