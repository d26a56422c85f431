/-! ===== the model: the form of items and programs ===== -/
section MI
variable {d m N p : Nat} {B : Int → Int} {w0 w : bm_W} {Φ : bm_Rt → bm_W → Prop}
theorem ms_item (hz : md_Z m B N w0) (h : fS m w0 p w) (hp : p ≤ N) (q0 : ∀ q w', f_itm (t_K B) (false, p) = (true, q) → q ≤ N → fS m w0 q w' → Φ (.inl (some (bm_i 0))) w') (q1 : ∀ q w', f_itm (t_K B) (false, p) = (false, q) → q ≤ N → fS m w0 q w' → Φ (.inl (some (bm_i 1))) w') : bm_Call bm_pg (d + 1267) y_X12_item [bm_r (some m)] w Φ := by
  have N5 := hz.2.2.1
  have k2 : t_kc 2 = 4 := rfl
  have k3 : t_kc 3 = 16 := rfl
  have k4 : t_kc 4 = 17 := rfl
  have k5 : t_kc 5 = 22 := rfl
  have k6 : t_kc 6 = 19 := rfl
  have k7 : t_kc 7 = 12 := rfl
  have k8 : t_kc 8 = 13 := rfl
  have k9 : t_kc 9 = 20 := rfl
  have ef : ∀ s, f_fun (t_K B) s = f_x (t_K B) 19 (f_bod (t_K B) (f_x (t_K B) 22 (f_x (t_K B) 17 (f_ins (t_K B) f_T (f_x (t_K B) 16 (f_x (t_K B) 3 s)))))) := fun _ => rfl
  have et : ∀ s, f_tab (t_K B) s = f_x (t_K B) 19 (f_rws (t_K B) f_T (f_x (t_K B) 20 (f_x (t_K B) 3 (f_x (t_K B) 13 (f_x (t_K B) 3 s))))) := fun _ => rfl
  refine vc_X12_item ?_
  simp only [bm_c0_v, bm_c1_v, bm_c2_v, bm_c3_v, bm_c4_v, bm_c5_v, bm_u_some, decide_eq_true_eq, true_and, and_true, and_self, Bool.not_eq_true, Bool.not_eq_true', decide_eq_false_iff_not, if_true, if_false, ite_true, ite_false, eq_self, (h.z hz).1.1.1, true_or, or_true]
  refine ms_takes (d := d + 1259) hz h hp (by decide) (by decide) (fun c => ?_) (fun c l1 w1 h1 => ?_)
  · rw [k2] at c
    rw [bm_c1_v, if_pos rfl]
    simp only [bm_c0_v, bm_c1_v, bm_c2_v, bm_c3_v, bm_c4_v, bm_c5_v, bm_u_some, decide_eq_true_eq, true_and, and_true, and_self, Bool.not_eq_true, Bool.not_eq_true', decide_eq_false_iff_not, if_true, if_false, ite_true, ite_false, eq_self, (h.z hz).1.1.1]
    refine ms_takes (d := d + 1259) hz h hp (by decide) (by decide) (fun c2 => ?_) (fun c2 l1 w1 h1 => ?_)
    · rw [k7] at c2
      rw [bm_c1_v, if_pos rfl]
      exact q0 p w (f_itm_x c c2) hp h
    rw [k7] at c2
    have e := f_itm_t c2 (K := t_K B) (by omega)
    rw [e, et] at q0 q1
    rw [bm_c1_v, if_neg (by decide)]
    simp only [bm_c0_v, bm_c1_v, bm_c2_v, bm_c3_v, bm_c4_v, bm_c5_v, bm_u_some, decide_eq_true_eq, true_and, and_true, and_self, Bool.not_eq_true, Bool.not_eq_true', decide_eq_false_iff_not, if_true, if_false, ite_true, ite_false, eq_self, (h1.z hz).1.1.1]
    refine ms_name (d := d + 1259) hz h1 l1 (fun c3 => ?_) (fun c3 l2 w2 h2 => ?_)
    · rw [bm_c1_v, if_pos rfl]
      exact q0 _ w1 (by rw [f_x_f c3, f_x_d, f_x_d, f_x_d, f_rws_d, f_x_d]) l1 h1
    rw [f_x_t c3 (by omega)] at q0 q1
    rw [bm_c1_v, if_neg (by decide)]
    simp only [bm_c0_v, bm_c1_v, bm_c2_v, bm_c3_v, bm_c4_v, bm_c5_v, bm_u_some, decide_eq_true_eq, true_and, and_true, and_self, Bool.not_eq_true, Bool.not_eq_true', decide_eq_false_iff_not, if_true, if_false, ite_true, ite_false, eq_self, (h2.z hz).1.1.1]
    refine ms_takes (d := d + 1259) hz h2 l2 (by decide) (by decide) (fun c4 => ?_) (fun c4 l3 w3 h3 => ?_)
    · rw [k8] at c4
      rw [bm_c1_v, if_pos rfl]
      exact q0 _ w2 (by rw [f_x_f c4, f_x_d, f_x_d, f_rws_d, f_x_d]) l2 h2
    rw [k8] at c4
    rw [f_x_t c4 (by omega)] at q0 q1
    rw [bm_c1_v, if_neg (by decide)]
    simp only [bm_c0_v, bm_c1_v, bm_c2_v, bm_c3_v, bm_c4_v, bm_c5_v, bm_u_some, decide_eq_true_eq, true_and, and_true, and_self, Bool.not_eq_true, Bool.not_eq_true', decide_eq_false_iff_not, if_true, if_false, ite_true, ite_false, eq_self, (h3.z hz).1.1.1]
    refine ms_name (d := d + 1259) hz h3 l3 (fun c5 => ?_) (fun c5 l4 w4 h4 => ?_)
    · rw [bm_c1_v, if_pos rfl]
      exact q0 _ w3 (by rw [f_x_f c5, f_x_d, f_rws_d, f_x_d]) l3 h3
    rw [f_x_t c5 (by omega)] at q0 q1
    rw [bm_c1_v, if_neg (by decide)]
    simp only [bm_c0_v, bm_c1_v, bm_c2_v, bm_c3_v, bm_c4_v, bm_c5_v, bm_u_some, decide_eq_true_eq, true_and, and_true, and_self, Bool.not_eq_true, Bool.not_eq_true', decide_eq_false_iff_not, if_true, if_false, ite_true, ite_false, eq_self, (h4.z hz).1.1.1]
    refine ms_takes (d := d + 1259) hz h4 l4 (by decide) (by decide) (fun c6 => ?_) (fun c6 l5 w5 h5 => ?_)
    · rw [k9] at c6
      rw [bm_c1_v, if_pos rfl]
      exact q0 _ w4 (by rw [f_x_f c6, f_rws_d, f_x_d]) l4 h4
    rw [k9] at c6
    rw [f_x_t c6 (by omega)] at q0 q1
    rw [bm_c1_v, if_neg (by decide)]
    simp only [bm_c0_v, bm_c1_v, bm_c2_v, bm_c3_v, bm_c4_v, bm_c5_v, bm_u_some, decide_eq_true_eq, true_and, and_true, and_self, Bool.not_eq_true, Bool.not_eq_true', decide_eq_false_iff_not, if_true, if_false, ite_true, ite_false, eq_self, (h5.z hz).1.1.1]
    refine ms_rowsForm (d := d + 1256) hz h5 l5 (fun q w6 e6 l6 h6 => ?_) (fun q w6 e6 l6 h6 => ?_)
    · rw [bm_c1_v, if_pos rfl]
      exact q0 _ w6 (by rw [e6, f_x_d]) l6 h6
    rw [e6] at q0 q1
    rw [bm_c1_v, if_neg (by decide)]
    simp only [bm_c0_v, bm_c1_v, bm_c2_v, bm_c3_v, bm_c4_v, bm_c5_v, bm_u_some, decide_eq_true_eq, true_and, and_true, and_self, Bool.not_eq_true, Bool.not_eq_true', decide_eq_false_iff_not, if_true, if_false, ite_true, ite_false, eq_self, (h6.z hz).1.1.1]
    refine ms_takes (d := d + 1259) hz h6 l6 (by decide) (by decide) (fun c7 => ?_) (fun c7 l7 w7 h7 => ?_)
    · rw [k6] at c7
      rw [bm_c1_v, if_pos rfl]
      exact q0 _ w6 (by rw [f_x_f c7]) l6 h6
    · rw [k6] at c7
      rw [bm_c1_v, if_neg (by decide)]
      exact q1 _ w7 (by rw [f_x_t c7 (by omega)]) l7 h7
  · rw [k2] at c
    have e := f_itm_f c (K := t_K B) (by omega)
    rw [e, ef] at q0 q1
    rw [bm_c1_v, if_neg (by decide)]
    simp only [bm_c0_v, bm_c1_v, bm_c2_v, bm_c3_v, bm_c4_v, bm_c5_v, bm_u_some, decide_eq_true_eq, true_and, and_true, and_self, Bool.not_eq_true, Bool.not_eq_true', decide_eq_false_iff_not, if_true, if_false, ite_true, ite_false, eq_self, (h1.z hz).1.1.1]
    refine ms_name (d := d + 1259) hz h1 l1 (fun c3 => ?_) (fun c3 l2 w2 h2 => ?_)
    · rw [bm_c1_v, if_pos rfl]
      exact q0 _ w1 (by rw [f_x_f c3, f_x_d, f_ins_d, f_x_d, f_x_d, f_bod_d, f_x_d]) l1 h1
    rw [f_x_t c3 (by omega)] at q0 q1
    rw [bm_c1_v, if_neg (by decide)]
    simp only [bm_c0_v, bm_c1_v, bm_c2_v, bm_c3_v, bm_c4_v, bm_c5_v, bm_u_some, decide_eq_true_eq, true_and, and_true, and_self, Bool.not_eq_true, Bool.not_eq_true', decide_eq_false_iff_not, if_true, if_false, ite_true, ite_false, eq_self, (h2.z hz).1.1.1]
    refine ms_takes (d := d + 1259) hz h2 l2 (by decide) (by decide) (fun c4 => ?_) (fun c4 l3 w3 h3 => ?_)
    · rw [k3] at c4
      rw [bm_c1_v, if_pos rfl]
      exact q0 _ w2 (by rw [f_x_f c4, f_ins_d, f_x_d, f_x_d, f_bod_d, f_x_d]) l2 h2
    rw [k3] at c4
    rw [f_x_t c4 (by omega)] at q0 q1
    rw [bm_c1_v, if_neg (by decide)]
    simp only [bm_c0_v, bm_c1_v, bm_c2_v, bm_c3_v, bm_c4_v, bm_c5_v, bm_u_some, decide_eq_true_eq, true_and, and_true, and_self, Bool.not_eq_true, Bool.not_eq_true', decide_eq_false_iff_not, if_true, if_false, ite_true, ite_false, eq_self, (h3.z hz).1.1.1]
    refine ms_inputsForm (d := d + 1257) hz h3 l3 (fun q w4 e4 l4 h4 => ?_) (fun q w4 e4 l4 h4 => ?_)
    · rw [bm_c1_v, if_pos rfl]
      exact q0 _ w4 (by rw [e4, f_x_d, f_x_d, f_bod_d, f_x_d]) l4 h4
    rw [e4] at q0 q1
    rw [bm_c1_v, if_neg (by decide)]
    simp only [bm_c0_v, bm_c1_v, bm_c2_v, bm_c3_v, bm_c4_v, bm_c5_v, bm_u_some, decide_eq_true_eq, true_and, and_true, and_self, Bool.not_eq_true, Bool.not_eq_true', decide_eq_false_iff_not, if_true, if_false, ite_true, ite_false, eq_self, (h4.z hz).1.1.1]
    refine ms_takes (d := d + 1259) hz h4 l4 (by decide) (by decide) (fun c5 => ?_) (fun c5 l5 w5 h5 => ?_)
    · rw [k4] at c5
      rw [bm_c1_v, if_pos rfl]
      exact q0 _ w4 (by rw [f_x_f c5, f_x_d, f_bod_d, f_x_d]) l4 h4
    rw [k4] at c5
    rw [f_x_t c5 (by omega)] at q0 q1
    rw [bm_c1_v, if_neg (by decide)]
    simp only [bm_c0_v, bm_c1_v, bm_c2_v, bm_c3_v, bm_c4_v, bm_c5_v, bm_u_some, decide_eq_true_eq, true_and, and_true, and_self, Bool.not_eq_true, Bool.not_eq_true', decide_eq_false_iff_not, if_true, if_false, ite_true, ite_false, eq_self, (h5.z hz).1.1.1]
    refine ms_takes (d := d + 1259) hz h5 l5 (by decide) (by decide) (fun c6 => ?_) (fun c6 l6 w6 h6 => ?_)
    · rw [k5] at c6
      rw [bm_c1_v, if_pos rfl]
      exact q0 _ w5 (by rw [f_x_f c6, f_bod_d, f_x_d]) l5 h5
    rw [k5] at c6
    rw [f_x_t c6 (by omega)] at q0 q1
    rw [bm_c1_v, if_neg (by decide)]
    simp only [bm_c0_v, bm_c1_v, bm_c2_v, bm_c3_v, bm_c4_v, bm_c5_v, bm_u_some, decide_eq_true_eq, true_and, and_true, and_self, Bool.not_eq_true, Bool.not_eq_true', decide_eq_false_iff_not, if_true, if_false, ite_true, ite_false, eq_self, (h6.z hz).1.1.1]
    refine ms_body (d := d) hz h6 l6 (fun q w7 e7 l7 h7 => ?_) (fun q w7 e7 l7 h7 => ?_)
    · rw [bm_c1_v, if_pos rfl]
      exact q0 _ w7 e7 l7 h7
    rw [e7] at q0 q1
    rw [bm_c1_v, if_neg (by decide)]
    simp only [bm_c0_v, bm_c1_v, bm_c2_v, bm_c3_v, bm_c4_v, bm_c5_v, bm_u_some, decide_eq_true_eq, true_and, and_true, and_self, Bool.not_eq_true, Bool.not_eq_true', decide_eq_false_iff_not, if_true, if_false, ite_true, ite_false, eq_self, (h7.z hz).1.1.1]
    refine ms_takes (d := d + 1259) hz h7 l7 (by decide) (by decide) (fun c8 => ?_) (fun c8 l8 w8 h8 => ?_)
    · rw [k6] at c8
      rw [bm_c1_v, if_pos rfl]
      exact q0 _ w7 (by rw [f_x_f c8]) l7 h7
    · rw [k6] at c8
      rw [bm_c1_v, if_neg (by decide)]
      exact q1 _ w8 (by rw [f_x_t c8 (by omega)]) l8 h8
theorem f_itm_pos {K : Nat → Int} {p q : Nat} (h0 : K N = 0) (hN : N ≤ 1500) (hp : p ≤ N) (h : f_itm K (false, p) = (false, q)) : p + 1 ≤ q := by
  by_cases c : K p = 4
  · rw [f_itm_f c (by omega)] at h
    have l : p + 1 ≤ N := by
      rcases Nat.lt_or_ge p N with z | z
      · exact z
      · have : p = N := by omega
        rw [this] at c
        omega
    have := (f_far_fun h0 (false, p + 1) l).1
    rw [h] at this
    exact this
  · by_cases c2 : K p = 12
    · rw [f_itm_t c2 (by omega)] at h
      have l : p + 1 ≤ N := by
        rcases Nat.lt_or_ge p N with z | z
        · exact z
        · have : p = N := by omega
          rw [this] at c2
          omega
      have := (f_far_tab h0 (false, p + 1) l).1
      rw [h] at this
      exact this
    · rw [f_itm_x c c2] at h
      cases h
theorem ms_items (hz : md_Z m B N w0) : ∀ (n p : Nat) (w : bm_W) (Φ : bm_Rt → bm_W → Prop), fS m w0 p w → p ≤ N → N + 1 ≤ n + p → (∀ q w', f_its (t_K B) n (false, p) = (true, q) → q ≤ N → fS m w0 q w' → Φ (.inl (some (bm_i 0))) w') → (∀ q w', f_its (t_K B) n (false, p) = (false, q) → q ≤ N → fS m w0 q w' → Φ (.inl (some (bm_i 1))) w') → bk_X12_program_0 (d + 1267) Φ m w
  | 0, p, w, Φ, h, hp, hn, q0, q1 => by omega
  | n + 1, p, w, Φ, h, hp, hn, q0, q1 => by
    have N5 := hz.2.2.1
    refine vb_X12_program_0 ?_
    simp only [bm_c0_v, bm_c1_v, bm_c2_v, bm_c3_v, bm_c4_v, bm_c5_v, bm_u_some, decide_eq_true_eq, true_and, and_true, and_self, Bool.not_eq_true, Bool.not_eq_true', decide_eq_false_iff_not, if_true, if_false, ite_true, ite_false, eq_self, (h.z hz).1.1.1, true_or, or_true]
    refine ms_item (d := d) hz h hp (fun q w1 e1 l1 h1 => ?_) (fun q w1 e1 l1 h1 => ?_)
    · rw [bm_c1_v, if_neg (by decide)]
      exact q0 q w1 (f_its_x e1) l1 h1
    rw [bm_c1_v, if_pos (by decide)]
    have Z1 := h1.z hz
    have kr : 0 ≤ t_K B q := (t_k_rng B (t_P B q)).1
    have tb := (Z1.2.1 q (by omega)).1
    simp only [bm_c0_v, bm_c1_v, bm_c2_v, bm_c3_v, bm_c4_v, bm_c5_v, bm_u_some, decide_eq_true_eq, true_and, and_true, and_self, Bool.not_eq_true, Bool.not_eq_true', decide_eq_false_iff_not, if_true, if_false, ite_true, ite_false, eq_self, Z1.1.1.1, Z1.1.1.g4, Z1.1.1.t4, Z1.1.1.n4, bm_in, h1.2.1, Int.toNat_natCast, tb, t_mk_0 (t_K B q) kr]
    refine ⟨by omega, ?_⟩
    have far := (f_far_itm (K := t_K B) (N := N) hz.2.2.2.2 (false, p) hp).1
    rw [e1] at far
    simp only at far
    by_cases c0 : t_K B q = 0
    · rw [if_neg (fun z => z c0)]
      exact q1 q w1 (f_its_f e1 c0 (by omega)) l1 h1
    · rw [if_pos c0]
      have e2 := f_its_t (n := n) e1 c0
      rw [e2] at q0 q1
      have := f_itm_pos hz.2.2.2.2 N5 hp e1
      exact ms_items hz n q w1 Φ h1 l1 (by omega) q0 q1
theorem ms_program (hz : md_Z m B N w0) (h : fS m w0 0 w) (q0 : ∀ q w', f_its (t_K B) f_T (false, 0) = (true, q) → q ≤ N → fS m w0 q w' → Φ (.inl (some (bm_i 0))) w') (q1 : ∀ q w', f_its (t_K B) f_T (false, 0) = (false, q) → q ≤ N → fS m w0 q w' → Φ (.inl (some (bm_i 1))) w') : bm_Call bm_pg (d + 1268) y_X12_program [bm_r (some m)] w Φ := by
  have := ms_items (d := d) hz f_T 0 w Φ h (Nat.zero_le _) (by have := hz.2.2.1; show N + 1 ≤ 1501 + 0; omega) q0 q1
  refine bm_enter rfl ?_
  exact this
end MI
