/-! ===== the form of expressions, in the model: ifs, factors, arguments ===== -/
theorem f_ex_lim {K : Nat → Int} {L : Nat} : ∀ (n u d : Nat), u ≤ 6 → f_ex K L n u d (false, L) = (true, L)
  | 0, _, _, _ => rfl
  | n + 1, u, d, hu => by
    have no : ∀ a b : Int, ¬ f_see K L (false, L) a b := fun a b z => Nat.lt_irrefl L z.2.1
    rcases (show u = 6 ∨ u = 5 ∨ u < 5 by omega) with rfl | rfl | h
    · rw [f_ex_6, if_neg (no _ _)]
      exact f_ex_lim n 0 d (by decide)
    · rw [f_ex_5, if_neg (no _ _), if_neg (no _ _)]
      split
      · rfl
      · rw [if_neg (no _ _), if_neg (fun z => z.elim (no _ _) (no _ _))]
    · rw [f_ex_lv h, f_ex_lim n (u + 1) d (by omega), f_ex_fail n (7 + u) d L (by omega)]
theorem fo.exp0 {K : Nat → Int} {L : Nat} {k : Int} {s : Bool × Nat} (h : fo K L s 0) : f_exp K L k s = (true, s.2) := by
  rcases h with h | h
  · exact absurd h.1 (by decide)
  · rcases h.2 with z | z
    · exact f_exp_dead z
    · rw [f_exp_lim z.1, z.1]
theorem fo.args0 {K : Nat → Int} {L n d : Nat} {s : Bool × Nat} (h : fo K L s 0) : f_ex K L (n + 1) 12 d s = (true, s.2) := by
  rcases h with h | h
  · exact absurd h.1 (by decide)
  · rcases h.2 with z | z
    · exact f_ex_true z (by decide)
    · rw [f_ex_12_lim z.1, z.1]
theorem f_exp_no {K : Nat → Int} {L : Nat} {k : Int} {s : Bool × Nat} (h : ¬ f_see K L s k k) : f_exp K L k s = (true, s.2) := by
  unfold f_exp
  rw [if_neg h]
theorem f_exp_yes {K : Nat → Int} {L : Nat} {k : Int} {s : Bool × Nat} (h : f_see K L s k k) : f_exp K L k s = (false, s.2 + 1) := by
  unfold f_exp
  rw [if_pos h]
section FM
variable {m N L fst : Nat} {B : Int → Int} {w0 : bm_W}
theorem fz.lt (h : fz m N L fst B w0) {p : Nat} (hp : p ≤ N) (hk : t_K B p ≠ 0) : p + 1 ≤ N := by
  rcases Nat.lt_or_ge p N with y | y
  · exact y
  · exact absurd (show t_K B p = 0 by rw [show p = N by omega]; exact h.1.2.2.2.2) hk
theorem fo.bit {K : Nat → Int} {s : Bool × Nat} {x : Int} (h : fo K L s x) : x = 0 ∨ x = 1 := by rcases h with z | z <;> omega
theorem fm_args {n : Nat} (h : fz m N L fst B w0) (hE : fcE m N L fst B w0 (n + 1)) (hA : fcA m N L fst B w0 n) : fcA m N L fst B w0 (n + 1) := by
  intro d depth p Φ hN hL hf hd hn hdd hq
  obtain ⟨d, rfl⟩ : ∃ d', d = d' + 24 := ⟨d - 24, by omega⟩
  have hz := h.z p
  refine vb_X12_argumentsForm_0 ?_
  simp only [bm_c0_v, bm_c1_v, bm_c2_v, bm_c3_v, bm_c4_v, bm_c5_v, bm_u_some, decide_eq_true_eq, true_and, and_true, and_self, Bool.not_eq_true, Bool.not_eq_true', decide_eq_false_iff_not, if_true, if_false, ite_true, ite_false, eq_self, true_or, or_true, hz.1.1.1]
  have r1 := h.rng (n + 1) 6 depth (s := (false, p)) (by decide) hN hL
  simp only at r1
  refine hE _ depth p _ hN hL hf hd (by simpa using hn) (by omega) (fun x1 hx1 => ?_)
  generalize f_ex (t_K B) L (n + 1) 6 depth (false, p) = s at hq r1 hx1 ⊢
  have hz1 := h.z s.2
  rw [bm_c1_v]
  by_cases x10 : x1 = 0
  · rw [x10] at hx1 ⊢
    rw [if_neg (by decide)]
    rw [hx1.args0] at hq
    exact hq 0 fo.no
  · obtain ⟨xe, sx⟩ := hx1.ok x10
    rw [if_pos x10]
    refine ⟨hz1.1.1.1, ?_⟩
    have kc4 : t_kc 4 = 17 := rfl
    have kc12 : t_kc 12 = 18 := rfl
    rw [sx, f_ex_12] at hq
    have ps : p < s.2 := r1.2.2.2 (by rw [sx]) (Or.inl (Nat.le_refl _))
    refine fm_goes_ h r1.2.1 (by omega) r1.2.2.1 (by decide) (by decide) (fun y => ?_) (fun y => ?_)
    · rw [bm_c1_v, if_pos rfl]
      refine ⟨hz1.1.1.1, ?_⟩
      rw [kc4] at y
      refine fm_goes_ h r1.2.1 (by omega) r1.2.2.1 (by decide) (by decide) (fun v => ?_) (fun v => ?_)
      · rw [bm_c1_v, if_neg (by decide)]
        rw [kc12] at v
        rw [if_neg v, f_exp_no y] at hq
        exact hq 0 fo.no
      · rw [bm_c1_v, if_pos (by decide)]
        rw [kc12] at v
        rw [if_pos v] at hq
        have v2 := v.2.1
        have v3 := v.2.2
        simp only at v2 v3
        exact hA (d + 24) depth (s.2 + 1) Φ (h.lt r1.2.1 (by omega)) (by omega) (by omega) hd (by omega) (by omega) hq
    · rw [bm_c1_v, if_neg (by decide)]
      rw [kc4] at y
      have y3 := y.2.2
      simp only at y3
      rw [if_neg (fun v => by have := v.2.2; simp only at this; omega), f_exp_yes y] at hq
      exact hq 1 fo.yes
theorem q_dp {d : Nat} (h : d ≤ 8) : bm_w ((d : Int) + 1) = ((d + 1 : Nat) : Int) := by rw [q_wI ⟨by omega, by omega⟩]; omega
theorem fm_expr {n : Nat} (h : fz m N L fst B w0) (hE : fcE m N L fst B w0 n) (hL0 : fcL m N L fst B w0 0 n) : fcE m N L fst B w0 (n + 1) := by
  intro d depth p Φ hN hL hf hd hn hdd hq
  obtain ⟨d, rfl⟩ : ∃ d', d = d' + 21 := ⟨d - 21, by omega⟩
  have hz := h.z p
  have hn' : 8 * (L + 1 - p) + 7 ≤ n + 1 := by simpa using hn
  have kc : t_kc 17 = 6 := rfl
  have s6 : ¬ p = L → t_K B p = 6 → f_see (t_K B) L (false, p) 6 6 := fun e c => ⟨rfl, by simp only; omega, by simp only; omega, by simp only; omega⟩
  refine vc_X12_expressionForm ?_
  simp only [bm_c0_v, bm_c1_v, bm_c2_v, bm_c3_v, bm_c4_v, bm_c5_v, bm_u_some, decide_eq_true_eq, true_and, and_true, and_self, Bool.not_eq_true, Bool.not_eq_true', decide_eq_false_iff_not, if_true, if_false, ite_true, ite_false, eq_self, true_or, or_true, hz.1.1.1, fm_sees h hN (show 1 ≤ 17 by decide) (show 17 < 31 by decide), kc]
  by_cases c : t_K B p = 6
  · rw [if_pos c, if_pos (by decide)]
    have hN1 := h.lt hN (by rw [c]; decide)
    by_cases c8 : depth = 8
    · rw [if_pos (by omega)]
      by_cases pL : p = L
      · have e1 : f_ex (t_K B) L (n + 1) 6 depth (false, p) = (true, p) := by rw [pL]; exact f_ex_lim _ _ _ (by decide)
        rw [e1] at hq
        exact hq 0 fo.no
      · have e1 : f_ex (t_K B) L (n + 1) 6 depth (false, p) = (true, p) := by rw [f_ex_6, if_pos (s6 pL c), if_pos (by omega)]
        rw [e1] at hq
        exact hq 0 fo.no
    · rw [if_neg (by omega)]
      refine fm_goes h hN hf (fun pL => ?_) (fun pL => ?_)
      · rw [bm_c1_v, if_neg (by decide)]
        have e1 : f_ex (t_K B) L (n + 1) 6 depth (false, p) = (true, p) := by rw [pL]; exact f_ex_lim _ _ _ (by decide)
        rw [e1] at hq
        exact hq 0 fo.no
      · have hz1 := h.z (p + 1)
        rw [bm_c1_v, if_pos (by decide), q_dp hd]
        have e1 : f_ex (t_K B) L (n + 1) 6 depth (false, p) = f_ex (t_K B) L n 6 (depth + 1) (f_exp (t_K B) L 8 (f_ex (t_K B) L n 6 (depth + 1) (f_exp (t_K B) L 7 (f_ex (t_K B) L n 6 (depth + 1) (false, p + 1))))) := by rw [f_ex_6, if_pos (s6 pL c), if_neg (by omega)]
        rw [e1] at hq
        refine ⟨hz1.1.1.1, ?_⟩
        have r1 := h.rng n 6 (depth + 1) (s := (false, p + 1)) (by decide) hN1 (by simp only; omega)
        simp only at r1
        refine hE _ (depth + 1) (p + 1) _ hN1 (by omega) (by omega) (by omega) (by simp; omega) (by omega) (fun x3 hx3 => ?_)
        generalize f_ex (t_K B) L n 6 (depth + 1) (false, p + 1) = s4 at hq r1 hx3 ⊢
        have hz4 := h.z s4.2
        rw [bm_c1_v]
        by_cases x30 : x3 = 0
        · rw [x30] at hx3 ⊢
          rw [if_pos rfl]
          rw [hx3.exp0, f_ex_fail n 6 (depth + 1) s4.2 (by decide), f_exp_fail, f_ex_fail n 6 (depth + 1) s4.2 (by decide)] at hq
          exact hq 0 fo.no
        · obtain ⟨-, sx⟩ := hx3.ok x30
          rw [if_neg x30]
          refine ⟨hz4.1.1.1, ?_⟩
          have kc18 : t_kc 18 = 7 := rfl
          refine fm_goes_ h r1.2.1 (by omega) r1.2.2.1 (by decide) (by decide) (fun y => ?_) (fun y => ?_)
          · rw [bm_c1_v, if_pos rfl]
            rw [kc18] at y
            rw [sx, f_exp_no y, f_ex_fail n 6 (depth + 1) s4.2 (by decide), f_exp_fail, f_ex_fail n 6 (depth + 1) s4.2 (by decide)] at hq
            exact hq 0 fo.no
          · rw [bm_c1_v, if_neg (by decide)]
            rw [kc18] at y
            have y2 := y.2.1
            have y3 := y.2.2
            simp only at y2 y3
            have hN5 := h.lt r1.2.1 (by omega)
            have hz5 := h.z (s4.2 + 1)
            refine ⟨hz5.1.1.1, ?_⟩
            have r2 := h.rng n 6 (depth + 1) (s := (false, s4.2 + 1)) (by decide) hN5 (by simp only; omega)
            simp only at r2
            rw [sx, f_exp_yes y] at hq
            refine hE _ (depth + 1) (s4.2 + 1) _ hN5 (by omega) (by omega) (by omega) (by simp; omega) (by omega) (fun x5 hx5 => ?_)
            simp only at hq
            generalize f_ex (t_K B) L n 6 (depth + 1) (false, s4.2 + 1) = s8 at hq r2 hx5 ⊢
            have hz8 := h.z s8.2
            rw [bm_c1_v]
            by_cases x50 : x5 = 0
            · rw [x50] at hx5 ⊢
              rw [if_pos rfl]
              rw [hx5.exp0, f_ex_fail n 6 (depth + 1) s8.2 (by decide)] at hq
              exact hq 0 fo.no
            · obtain ⟨-, sx8⟩ := hx5.ok x50
              rw [if_neg x50]
              refine ⟨hz8.1.1.1, ?_⟩
              have kc19 : t_kc 19 = 8 := rfl
              refine fm_goes_ h r2.2.1 (by omega) r2.2.2.1 (by decide) (by decide) (fun v => ?_) (fun v => ?_)
              · rw [bm_c1_v, if_pos rfl]
                rw [kc19] at v
                rw [sx8, f_exp_no v, f_ex_fail n 6 (depth + 1) s8.2 (by decide)] at hq
                exact hq 0 fo.no
              · rw [bm_c1_v, if_neg (by decide)]
                rw [kc19] at v
                have v2 := v.2.1
                have v3 := v.2.2
                simp only at v2 v3
                have hN9 := h.lt r2.2.1 (by omega)
                have hz9 := h.z (s8.2 + 1)
                refine ⟨hz9.1.1.1, ?_⟩
                rw [sx8, f_exp_yes v] at hq
                refine hE _ (depth + 1) (s8.2 + 1) _ hN9 (by omega) (by omega) (by omega) (by simp; omega) (by omega) (fun x7 hx7 => ?_)
                rw [bm_c1_v]
                have := hq x7 hx7
                by_cases x70 : x7 = 0
                · rw [if_pos x70]
                  rw [x70] at this
                  exact this
                · rw [if_neg x70]
                  rw [(hx7.ok x70).1] at this
                  exact this
  · rw [if_neg c, if_neg (by decide)]
    have e1 : f_ex (t_K B) L (n + 1) 6 depth (false, p) = f_ex (t_K B) L n 0 depth (false, p) := by rw [f_ex_6, if_neg (fun z => c (by have := z.2.2; simp only at this; omega))]
    rw [e1] at hq
    have key := hL0 (d + 19) depth p (fun r8 w8 => bm_c1 (fun x8 => (x8 = 0 ∨ x8 = 1) ∧ Φ (.inl (some (bm_i x8))) w8) (fun E => Φ (.inr E) w8) r8) hN hL hf hd (by simp; omega) (by omega) (fun x hx => ?_)
    · exact key
    · rw [bm_c1_v]
      exact ⟨hx.bit, hq x hx⟩
end FM
