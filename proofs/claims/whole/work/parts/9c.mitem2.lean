/-! ===== the model: the form of inputs, rows ===== -/
section MI
variable {d m N p : Nat} {B : Int → Int} {w0 w : bm_W} {Φ : bm_Rt → bm_W → Prop}
theorem ms_inputs (hz : md_Z m B N w0) : ∀ (n p : Nat) (w : bm_W) (Φ : bm_Rt → bm_W → Prop), fS m w0 p w → p ≤ N → N + 1 ≤ n + p → (∀ q w', f_ins (t_K B) n (false, p) = (true, q) → q ≤ N → fS m w0 q w' → Φ (.inl (some (bm_i 0))) w') → (∀ q w', f_ins (t_K B) n (false, p) = (false, q) → q ≤ N → fS m w0 q w' → Φ (.inl (some (bm_i 1))) w') → bk_X12_inputsForm_0 (d + 8) Φ m w
  | 0, p, w, Φ, h, hp, hn, q0, q1 => by omega
  | n + 1, p, w, Φ, h, hp, hn, q0, q1 => by
    have N5 := hz.2.2.1
    have k10 : t_kc 10 = 5 := rfl
    have k11 : t_kc 11 = 33 := rfl
    have k12 : t_kc 12 = 18 := rfl
    refine vb_X12_inputsForm_0 ?_
    simp only [bm_c0_v, bm_c1_v, bm_c2_v, bm_c3_v, bm_c4_v, bm_c5_v, bm_u_some, decide_eq_true_eq, true_and, and_true, and_self, Bool.not_eq_true, Bool.not_eq_true', decide_eq_false_iff_not, if_true, if_false, ite_true, ite_false, eq_self, (h.z hz).1.1.1, true_or, or_true]
    refine ms_name hz h hp (fun c => ?_) (fun c l w1 h1 => ?_)
    · rw [bm_c1_v, if_pos rfl]
      exact q0 p w (f_ins_x (by unfold f_inp; rw [f_x_f c, f_x_d, f_wh_d, f_x_d, f_wh_d])) hp h
    rw [bm_c1_v, if_neg (by decide)]
    have e1 : f_inp (t_K B) (false, p) = f_wh (t_K B) (f_x (t_K B) 33 (f_wh (t_K B) (f_x (t_K B) 5 (false, p + 1)))) := by unfold f_inp; rw [f_x_t c (by omega)]
    simp only [bm_c0_v, bm_c1_v, bm_c2_v, bm_c3_v, bm_c4_v, bm_c5_v, bm_u_some, decide_eq_true_eq, true_and, and_true, and_self, Bool.not_eq_true, Bool.not_eq_true', decide_eq_false_iff_not, if_true, if_false, ite_true, ite_false, eq_self, (h1.z hz).1.1.1]
    refine ms_takes hz h1 l (by decide) (by decide) (fun c2 => ?_) (fun c2 l2 w2 h2 => ?_)
    · rw [k10] at c2
      rw [bm_c1_v, if_pos rfl]
      exact q0 (p + 1) w1 (f_ins_x (by rw [e1, f_x_f c2, f_wh_d, f_x_d, f_wh_d])) l h1
    rw [k10] at c2
    rw [bm_c1_v, if_neg (by decide)]
    rw [f_x_t c2 (by omega)] at e1
    simp only [bm_c0_v, bm_c1_v, bm_c2_v, bm_c3_v, bm_c4_v, bm_c5_v, bm_u_some, decide_eq_true_eq, true_and, and_true, and_self, Bool.not_eq_true, Bool.not_eq_true', decide_eq_false_iff_not, if_true, if_false, ite_true, ite_false, eq_self, (h2.z hz).1.1.1]
    refine ms_whole hz h2 l2 (fun q w3 e3 l3 h3 => ?_) (fun q w3 e3 l3 h3 => ?_)
    · rw [bm_c1_v, if_pos rfl]
      exact q0 q w3 (f_ins_x (by rw [e1, e3, f_x_d, f_wh_d])) l3 h3
    rw [bm_c1_v, if_neg (by decide)]
    rw [e3] at e1
    simp only [bm_c0_v, bm_c1_v, bm_c2_v, bm_c3_v, bm_c4_v, bm_c5_v, bm_u_some, decide_eq_true_eq, true_and, and_true, and_self, Bool.not_eq_true, Bool.not_eq_true', decide_eq_false_iff_not, if_true, if_false, ite_true, ite_false, eq_self, (h3.z hz).1.1.1]
    refine ms_takes hz h3 l3 (by decide) (by decide) (fun c4 => ?_) (fun c4 l4 w4 h4 => ?_)
    · rw [k11] at c4
      rw [bm_c1_v, if_pos rfl]
      exact q0 q w3 (f_ins_x (by rw [e1, f_x_f c4, f_wh_d])) l3 h3
    rw [k11] at c4
    rw [bm_c1_v, if_neg (by decide)]
    rw [f_x_t c4 (by omega)] at e1
    simp only [bm_c0_v, bm_c1_v, bm_c2_v, bm_c3_v, bm_c4_v, bm_c5_v, bm_u_some, decide_eq_true_eq, true_and, and_true, and_self, Bool.not_eq_true, Bool.not_eq_true', decide_eq_false_iff_not, if_true, if_false, ite_true, ite_false, eq_self, (h4.z hz).1.1.1]
    refine ms_whole hz h4 l4 (fun q5 w5 e5 l5 h5 => ?_) (fun q5 w5 e5 l5 h5 => ?_)
    · rw [bm_c1_v, if_neg (by decide)]
      exact q0 q5 w5 (f_ins_x (by rw [e1, e5])) l5 h5
    rw [bm_c1_v, if_pos (by decide)]
    rw [e5] at e1
    have far := (f_far_inp (K := t_K B) (N := N) hz.2.2.2.2 (false, p) hp).1
    rw [e1] at far
    simp only at far
    simp only [bm_c0_v, bm_c1_v, bm_c2_v, bm_c3_v, bm_c4_v, bm_c5_v, bm_u_some, decide_eq_true_eq, true_and, and_true, and_self, Bool.not_eq_true, Bool.not_eq_true', decide_eq_false_iff_not, if_true, if_false, ite_true, ite_false, eq_self, (h5.z hz).1.1.1]
    refine ms_takes hz h5 l5 (by decide) (by decide) (fun c6 => ?_) (fun c6 l6 w6 h6 => ?_)
    · rw [k12] at c6
      rw [bm_c1_v, if_neg (by decide)]
      exact q1 q5 w5 (f_ins_f e1 c6) l5 h5
    · rw [k12] at c6
      rw [bm_c1_v, if_pos (by decide)]
      have e2 := f_ins_t (n := n) e1 c6 (by omega)
      rw [e2] at q0 q1
      exact ms_inputs hz n (q5 + 1) w6 Φ h6 l6 (by omega) q0 q1
theorem ms_inputsForm (hz : md_Z m B N w0) (h : fS m w0 p w) (hp : p ≤ N) (q0 : ∀ q w', f_ins (t_K B) f_T (false, p) = (true, q) → q ≤ N → fS m w0 q w' → Φ (.inl (some (bm_i 0))) w') (q1 : ∀ q w', f_ins (t_K B) f_T (false, p) = (false, q) → q ≤ N → fS m w0 q w' → Φ (.inl (some (bm_i 1))) w') : bm_Call bm_pg (d + 9) y_X12_inputsForm [bm_r (some m)] w Φ := by
  have := ms_inputs (d := d) hz f_T p w Φ h hp (by have := hz.2.2.1; show N + 1 ≤ 1501 + p; omega) q0 q1
  refine bm_enter rfl ?_
  exact this
end MI
