/-! ===== the model's answers: table, caseOf, holds ===== -/
section MO
variable {d m : Nat} {B : Int → Int} {pr : y_pr} {w w' : bm_W} {Φ : bm_Rt → bm_W → Prop}
theorem mA.thr {v : Int} (h : mA m B pr w) : mA m B pr (bm_si w m 0 v) := h.mO (mO.rf.thr)
theorem mo_table {x what : Int} (h : mA m B pr w) (h37 : bm_gi w m 37 = 0) (q1 : (0 ≤ x ∧ x < (pr.2.length : Int)) ∧ 0 ≤ what ∧ what ≤ 4 → ∀ w', mO m 0 0 w w' → bm_gi w' m 0 = 0 → Φ (.inl (some (bm_i (y_told pr x.toNat what)))) w') (q0 : ¬ ((0 ≤ x ∧ x < (pr.2.length : Int)) ∧ 0 ≤ what ∧ what ≤ 4) → ∀ v w', mO m 0 0 w w' → bm_gi w' m 0 = 1 → Φ (.inl (some (bm_i v))) w') : bm_Call bm_pg (d + 1204) y_X12_table_ [bm_r (some m), bm_i x, bm_i what] w Φ := by
  have h0 := h.thr (v := 0)
  have z0 : mO m 0 0 w (bm_si w m 0 0) := mO.rf.thr
  refine vc_X12_table_ ?_
  simp only [bm_c0_v, bm_c1_v, bm_c2_v, bm_c3_v, bm_c4_v, bm_c5_v, bm_u_some, decide_eq_true_eq, true_and, and_true, and_self, Bool.not_eq_true, Bool.not_eq_true', decide_eq_false_iff_not, if_true, if_false, ite_true, ite_false, eq_self, h.1.1, h0.isTable, h0.1.1, mp_isIn, bm_c1_v, mp_no h0.1.1]
  by_cases c : 0 ≤ x ∧ x < (pr.2.length : Int)
  · rw [if_neg (show ¬ (if 0 ≤ x ∧ x < (pr.2.length : Int) then (1 : Int) else 0) = 0 by rw [if_pos c]; decide)]
    by_cases c2 : 0 ≤ what ∧ what ≤ 4
    · rw [if_neg (show ¬ (if 0 ≤ what ∧ what ≤ 4 then (1 : Int) else 0) = 0 by rw [if_pos c2]; decide)]
      obtain ⟨k, rfl⟩ : ∃ k : Nat, x = (k : Int) := ⟨x.toNat, by omega⟩
      refine mm_tableTold (d := d) h0 ((q_gi_nk (by decide)).trans h37) (by omega) c2 (fun w2 Q2 => ?_)
      rw [bm_c1_v]
      have := q1 ⟨c, c2⟩ w2 (z0.tr (mO.mQ Q2)) ((Q2.2.1 0 (by decide)).trans q_gi_eq)
      rw [Int.toNat_natCast] at this
      exact this
    · rw [if_pos (show (if 0 ≤ what ∧ what ≤ 4 then (1 : Int) else 0) = 0 by rw [if_neg c2])]
      exact q0 (fun z => c2 z.2) 0 _ z0.thr q_gi_eq
  · rw [if_pos (show (if 0 ≤ x ∧ x < (pr.2.length : Int) then (1 : Int) else 0) = 0 by rw [if_neg c])]
    exact q0 (fun z => c z.1) 0 _ z0.thr q_gi_eq
theorem mo_caseOf {x k i : Int} (h : mA m B pr w) (q1 : y_isc pr x k ∧ 0 ≤ i ∧ i < ((y_tF pr x.toNat).2.1.length : Int) → ∀ w', mO m 0 0 w w' → bm_gi w' m 0 = 0 → Φ (.inl (some (bm_i (s_in (pr.2.getD x.toNat y_t0).2.2 k i.toNat)))) w') (q0 : ¬ (y_isc pr x k ∧ 0 ≤ i ∧ i < ((y_tF pr x.toNat).2.1.length : Int)) → ∀ v w', mO m 0 0 w w' → bm_gi w' m 0 = 1 → Φ (.inl (some (bm_i v))) w') : bm_Call bm_pg (d + 4) y_X12_caseOf [bm_r (some m), bm_i x, bm_i k, bm_i i] w Φ := by
  have h0 := h.thr (v := 0)
  have z0 : mO m 0 0 w (bm_si w m 0 0) := mO.rf.thr
  refine vc_X12_caseOf ?_
  simp only [bm_c0_v, bm_c1_v, bm_c2_v, bm_c3_v, bm_c4_v, bm_c5_v, bm_u_some, decide_eq_true_eq, true_and, and_true, and_self, Bool.not_eq_true, Bool.not_eq_true', decide_eq_false_iff_not, if_true, if_false, ite_true, ite_false, eq_self, h.1.1, h0.isCase, h0.1.1, bm_c1_v, mp_no h0.1.1]
  by_cases c : y_isc pr x k
  · rw [if_neg (show ¬ (if y_isc pr x k then (1 : Int) else 0) = 0 by rw [if_pos c]; decide)]
    obtain ⟨t, rfl⟩ : ∃ t : Nat, x = (t : Int) := ⟨x.toNat, by have := c.1; omega⟩
    have T := (h0.tab (k := t) (by have := c.2.1; omega)).1
    have hk := T.2.1
    have hf := T.2.2.2.1
    have n3 := T.2.2.2.2.2.2.1
    rw [Int.toNat_natCast] at q1 q0
    have c3 := c.2.2
    rw [Int.toNat_natCast] at c3
    simp only [bm_c0_v, bm_c1_v, bm_c2_v, bm_c3_v, bm_c4_v, bm_c5_v, bm_u_some, decide_eq_true_eq, true_and, and_true, and_self, Bool.not_eq_true, Bool.not_eq_true', decide_eq_false_iff_not, if_true, if_false, ite_true, ite_false, eq_self, h0.1.1, mp_no h0.1.1, h0.1.1, h0.1.g20, h0.1.t20, h0.1.n20, h0.1.g30, h0.1.t30, h0.1.n30, bm_in, Int.toNat_natCast, T.2.2.1, T.2.2.2.2.1, q_wI (x := ((y_tF pr t).2.1.length : Int) - 1) ⟨by omega, by omega⟩, mp_isIn, bm_c1_v]
    refine ⟨by omega, by omega, ?_⟩
    by_cases c2 : 0 ≤ i ∧ i < ((y_tF pr t).2.1.length : Int)
    · rw [if_neg (show ¬ (if 0 ≤ i ∧ i ≤ ((y_tF pr t).2.1.length : Int) - 1 then (1 : Int) else 0) = 0 by rw [if_pos ⟨by omega, by omega⟩]; decide)]
      obtain ⟨j, rfl⟩ : ∃ j : Nat, i = (j : Int) := ⟨i.toNat, by omega⟩
      refine mm_caseInputs (d := d + 1) T c3.1 c3.2 (fun w2 F2 g2 => ?_)
      rw [bm_c3_v]
      have S2 : sh_Md m w2 := h0.1.fr F2
      have hq := q1 ⟨c, c2⟩ w2 (z0.tr (mO.of F2 (fun a z => by omega) (fun k _ _ => F2.gi (by omega)))) ((F2.gi (by omega)).trans q_gi_eq)
      rw [Int.toNat_natCast] at hq ⊢
      rw [g2 j (by omega)]
      rw [S2.t42, S2.n42]
      exact ⟨⟨rfl, by omega⟩, hq⟩
    · rw [if_pos (show (if 0 ≤ i ∧ i ≤ ((y_tF pr t).2.1.length : Int) - 1 then (1 : Int) else 0) = 0 by rw [if_neg (by omega)])]
      exact q0 (fun z => c2 z.2) 0 _ z0.thr q_gi_eq
  · rw [if_pos (show (if y_isc pr x k then (1 : Int) else 0) = 0 by rw [if_neg c])]
    exact q0 (fun z => c z.1) 0 _ z0.thr q_gi_eq
theorem mo_holds {x k : Int} (h : mA m B pr w) (q1 : y_isc pr x k → ∀ w', mO m 0 0 w w' → bm_gi w' m 0 = 0 → Φ (.inl (some (bm_i (y_h pr x.toNat k)))) w') (q0 : ¬ y_isc pr x k → ∀ v w', mO m 0 0 w w' → bm_gi w' m 0 = 1 → Φ (.inl (some (bm_i v))) w') : bm_Call bm_pg (d + 1203) y_X12_holds_ [bm_r (some m), bm_i x, bm_i k] w Φ := by
  have h0 := h.thr (v := 0)
  have h1 := h.thr (v := 1)
  have z0 : mO m 0 0 w (bm_si w m 0 0) := mO.rf.thr
  have z1 : mO m 0 0 w (bm_si w m 0 1) := mO.rf.thr
  have e0 : bm_gi (bm_si w m 0 0) m 0 = 0 := q_gi_eq
  have e1 : bm_gi (bm_si w m 0 1) m 0 = 1 := q_gi_eq
  refine vc_X12_holds_ ?_
  simp only [bm_c0_v, bm_c1_v, bm_c2_v, bm_c3_v, bm_c4_v, bm_c5_v, bm_u_some, decide_eq_true_eq, true_and, and_true, and_self, Bool.not_eq_true, Bool.not_eq_true', decide_eq_false_iff_not, if_true, if_false, ite_true, ite_false, eq_self, h.1.1, h.isCase (d := d + 1199), h0.1.1, h1.1.1, bm_c1_v, e0, e1]
  by_cases c : y_isc pr x k
  · rw [if_neg (show ¬ (if y_isc pr x k then (1 : Int) else 0) = 0 by rw [if_pos c]; decide), if_neg (by decide)]
    obtain ⟨t, rfl⟩ : ∃ t : Nat, x = (t : Int) := ⟨x.toNat, by have := c.1; omega⟩
    have c3 := c.2.2
    rw [Int.toNat_natCast] at c3 q1
    refine mm_hold (d := d) h0 (by have := c.2.1; omega) c3.1 c3.2 (fun w2 Q2 => ?_)
    rw [bm_c1_v]
    have hq := q1 c w2 (z0.tr (mO.mQ Q2)) ((Q2.2.1 0 (by decide)).trans e0)
    by_cases c2 : y_h pr t k = 0
    · rw [if_pos c2]
      rw [c2] at hq
      exact ⟨Or.inl trivial, hq⟩
    · rw [if_neg c2]
      have : y_h pr t k = 1 := by
        rcases s_ad_01 (R := ((pr.2.getD t y_t0).2.2.getD (s_at (pr.2.getD t y_t0).2.2 k).1 y_r0)) (v := ((y_tF pr t).2.2.2.2 (s_in (pr.2.getD t y_t0).2.2 k) (-1)).1) with z | z
        · exact absurd z c2
        · exact z
      rw [this] at hq
      exact ⟨Or.inr trivial, hq⟩
  · rw [if_pos (show (if y_isc pr x k then (1 : Int) else 0) = 0 by rw [if_neg c]), if_pos (by decide)]
    exact ⟨Or.inl trivial, q0 c 0 _ z1 e1⟩
end MO
