/-! ===== the model: the form of rows, items, programs ===== -/
section FL
variable {K : Nat → Int}
theorem f_cel_s {p : Nat} (h : K p = 30) (hp : p ≤ 1500) : f_cel K (false, p) = (false, p + 1) := if_pos ⟨rfl, by show p < 1501; omega, by simp only; omega, by simp only; omega⟩
theorem f_cel_n {p : Nat} (h : K p ≠ 30) : f_cel K (false, p) = if f_see K f_T (f_wh K (false, p)) 33 33 then f_wh K (false, (f_wh K (false, p)).2 + 1) else f_wh K (false, p) := if_neg (fun z => h (by have := z.2.2; simp only at this; omega))
theorem f_cel_x {p q : Nat} (h : K p ≠ 30) (e : f_wh K (false, p) = (true, q)) : f_cel K (false, p) = (true, q) := by
  rw [f_cel_n h, e, if_neg f_no]
theorem f_cel_1 {p q : Nat} (h : K p ≠ 30) (e : f_wh K (false, p) = (false, q)) (h2 : K q ≠ 33) : f_cel K (false, p) = (false, q) := by
  rw [f_cel_n h, e, if_neg (fun z => h2 (by have := z.2.2; simp only at this; omega))]
theorem f_cel_2 {p q : Nat} (h : K p ≠ 30) (e : f_wh K (false, p) = (false, q)) (h2 : K q = 33) (hq : q ≤ 1500) : f_cel K (false, p) = f_wh K (false, q + 1) := by
  rw [f_cel_n h, e, if_pos ⟨rfl, by show q < 1501; omega, by simp only; omega, by simp only; omega⟩]
theorem f_res_c {p : Nat} (h : 22 ≤ K p ∧ K p ≤ 27) (hp : p ≤ 1500) : f_res K (false, p) = f_wh K (false, p + 1) := if_pos ⟨rfl, by show p < 1501; omega, h⟩
theorem f_res_n {p : Nat} (h : ¬ (22 ≤ K p ∧ K p ≤ 27)) : f_res K (false, p) = if f_see K f_T (false, p) 14 14 then (false, p + 1) else f_x K 15 (false, p) := if_neg (fun z => h z.2.2)
theorem f_res_a {p : Nat} (h : K p = 14) (hp : p ≤ 1500) : f_res K (false, p) = (false, p + 1) := by
  rw [f_res_n (by omega), if_pos ⟨rfl, by show p < 1501; omega, by simp only; omega, by simp only; omega⟩]
theorem f_res_e {p : Nat} (h : K p ≠ 14) (h2 : ¬ (22 ≤ K p ∧ K p ≤ 27)) : f_res K (false, p) = f_x K 15 (false, p) := by
  rw [f_res_n h2, if_neg (fun z => h (by have := z.2.2; simp only at this; omega))]
theorem f_itm_f {p : Nat} (h : K p = 4) (hp : p ≤ 1500) : f_itm K (false, p) = f_fun K (false, p + 1) := if_pos ⟨rfl, by show p < 1501; omega, by simp only; omega, by simp only; omega⟩
theorem f_itm_n {p : Nat} (h : K p ≠ 4) : f_itm K (false, p) = if f_see K f_T (false, p) 12 12 then f_tab K (false, p + 1) else (true, p) := if_neg (fun z => h (by have := z.2.2; simp only at this; omega))
theorem f_itm_t {p : Nat} (h : K p = 12) (hp : p ≤ 1500) : f_itm K (false, p) = f_tab K (false, p + 1) := by
  rw [f_itm_n (by omega), if_pos ⟨rfl, by show p < 1501; omega, by simp only; omega, by simp only; omega⟩]
theorem f_itm_x {p : Nat} (h : K p ≠ 4) (h2 : K p ≠ 12) : f_itm K (false, p) = (true, p) := by
  rw [f_itm_n h, if_neg (fun z => h2 (by have := z.2.2; simp only at this; omega))]
theorem f_its_t {n p q : Nat} (h : f_itm K (false, p) = (false, q)) (hk : K q ≠ 0) : f_its K (n + 1) (false, p) = f_its K n (false, q) := by
  rw [f_its_s, h, if_pos ⟨rfl, fun z => hk (by have := z.2.2; simp only at this; omega)⟩]
theorem f_its_f {n p q : Nat} (h : f_itm K (false, p) = (false, q)) (hk : K q = 0) (hq : q ≤ 1500) : f_its K (n + 1) (false, p) = (false, q) := by
  rw [f_its_s, h, if_neg (fun z => z.2 ⟨rfl, by show q < 1501; omega, by simp only; omega, by simp only; omega⟩)]
theorem f_its_x {n p q : Nat} (h : f_itm K (false, p) = (true, q)) : f_its K (n + 1) (false, p) = (true, q) := by
  rw [f_its_s, h, if_neg (fun z => by have := z.1; cases this)]
end FL
section MI
variable {d m N p : Nat} {B : Int → Int} {w0 w : bm_W} {Φ : bm_Rt → bm_W → Prop}
theorem ms_cells (hz : md_Z m B N w0) : ∀ (n p : Nat) (w : bm_W) (Φ : bm_Rt → bm_W → Prop), fS m w0 p w → p ≤ N → N + 1 ≤ n + p → (∀ q w', f_cls (t_K B) n (false, p) = (true, q) → q ≤ N → fS m w0 q w' → Φ (.inl (some (bm_i 0))) w') → (∀ q w', f_cls (t_K B) n (false, p) = (false, q) → q ≤ N → fS m w0 q w' → Φ (.inl (some (bm_i 1))) w') → bk_X12_cellsForm_0 (d + 8) Φ m w
  | 0, p, w, Φ, h, hp, hn, q0, q1 => by omega
  | n + 1, p, w, Φ, h, hp, hn, q0, q1 => by
    have N5 := hz.2.2.1
    have k11 : t_kc 11 = 33 := rfl
    have k12 : t_kc 12 = 18 := rfl
    have k14 : t_kc 14 = 30 := rfl
    -- behind a cell
    have fin : ∀ q w5, f_cel (t_K B) (false, p) = (false, q) → q ≤ N → fS m w0 q w5 → bm_Call bm_pg (d + 8) y_X12_takes [bm_r (some m), bm_k (0, 12)] w5 (fun r2 w2 =>
        bm_c1 (fun x2 => (if ¬ (x2 = 0) then
          bk_X12_cellsForm_0 (d + 8) Φ m w2
        else Φ (.inl (some (bm_i (1 : Int)))) w2)) (fun E => Φ (.inr E) w2) r2) := by
      intro q w5 e5 l5 h5
      have far := (f_far_cel (K := t_K B) (N := N) hz.2.2.2.2 (false, p) hp).1
      rw [e5] at far
      simp only at far
      refine ms_takes (d := d + 1) hz h5 l5 (by decide) (by decide) (fun c6 => ?_) (fun c6 l6 w6 h6 => ?_)
      · rw [k12] at c6
        rw [bm_c1_v, if_neg (by decide)]
        exact q1 q w5 (f_cls_f e5 c6) l5 h5
      · rw [k12] at c6
        rw [bm_c1_v, if_pos (by decide)]
        have e2 := f_cls_t (n := n) e5 c6 (by omega)
        rw [e2] at q0 q1
        exact ms_cells hz n (q + 1) w6 Φ h6 l6 (by omega) q0 q1
    refine vb_X12_cellsForm_0 ?_
    simp only [bm_c0_v, bm_c1_v, bm_c2_v, bm_c3_v, bm_c4_v, bm_c5_v, bm_u_some, decide_eq_true_eq, true_and, and_true, and_self, Bool.not_eq_true, Bool.not_eq_true', decide_eq_false_iff_not, if_true, if_false, ite_true, ite_false, eq_self, (h.z hz).1.1.1, true_or, or_true]
    refine ms_takes hz h hp (by decide) (by decide) (fun c => ?_) (fun c l w1 h1 => ?_)
    · rw [k14] at c
      rw [bm_c1_v, if_neg (by decide)]
      simp only [bm_c0_v, bm_c1_v, bm_c2_v, bm_c3_v, bm_c4_v, bm_c5_v, bm_u_some, decide_eq_true_eq, true_and, and_true, and_self, Bool.not_eq_true, Bool.not_eq_true', decide_eq_false_iff_not, if_true, if_false, ite_true, ite_false, eq_self, (h.z hz).1.1.1]
      refine ms_whole hz h hp (fun q w3 e3 l3 h3 => ?_) (fun q w3 e3 l3 h3 => ?_)
      · rw [bm_c1_v, if_pos rfl]
        exact q0 q w3 (f_cls_x (f_cel_x c e3)) l3 h3
      rw [bm_c1_v, if_neg (by decide)]
      simp only [bm_c0_v, bm_c1_v, bm_c2_v, bm_c3_v, bm_c4_v, bm_c5_v, bm_u_some, decide_eq_true_eq, true_and, and_true, and_self, Bool.not_eq_true, Bool.not_eq_true', decide_eq_false_iff_not, if_true, if_false, ite_true, ite_false, eq_self, (h3.z hz).1.1.1]
      refine ms_takes hz h3 l3 (by decide) (by decide) (fun c4 => ?_) (fun c4 l4 w4 h4 => ?_)
      · rw [k11] at c4
        rw [bm_c1_v, if_pos rfl]
        simp only [bm_c0_v, bm_c1_v, bm_c2_v, bm_c3_v, bm_c4_v, bm_c5_v, bm_u_some, decide_eq_true_eq, true_and, and_true, and_self, Bool.not_eq_true, Bool.not_eq_true', decide_eq_false_iff_not, if_true, if_false, ite_true, ite_false, eq_self, (h3.z hz).1.1.1]
        exact fin q w3 (f_cel_1 c e3 c4) l3 h3
      · rw [k11] at c4
        rw [bm_c1_v, if_neg (by decide)]
        simp only [bm_c0_v, bm_c1_v, bm_c2_v, bm_c3_v, bm_c4_v, bm_c5_v, bm_u_some, decide_eq_true_eq, true_and, and_true, and_self, Bool.not_eq_true, Bool.not_eq_true', decide_eq_false_iff_not, if_true, if_false, ite_true, ite_false, eq_self, (h4.z hz).1.1.1]
        have e4 := f_cel_2 c e3 c4 (by omega)
        refine ms_whole hz h4 l4 (fun q5 w5 e5 l5 h5 => ?_) (fun q5 w5 e5 l5 h5 => ?_)
        · rw [bm_c1_v, if_neg (by decide)]
          exact q0 q5 w5 (f_cls_x (e4.trans e5)) l5 h5
        · rw [bm_c1_v, if_pos (by decide)]
          simp only [bm_c0_v, bm_c1_v, bm_c2_v, bm_c3_v, bm_c4_v, bm_c5_v, bm_u_some, decide_eq_true_eq, true_and, and_true, and_self, Bool.not_eq_true, Bool.not_eq_true', decide_eq_false_iff_not, if_true, if_false, ite_true, ite_false, eq_self, (h5.z hz).1.1.1]
          exact fin q5 w5 (e4.trans e5) l5 h5
    · rw [k14] at c
      rw [bm_c1_v, if_pos (by decide)]
      simp only [bm_c0_v, bm_c1_v, bm_c2_v, bm_c3_v, bm_c4_v, bm_c5_v, bm_u_some, decide_eq_true_eq, true_and, and_true, and_self, Bool.not_eq_true, Bool.not_eq_true', decide_eq_false_iff_not, if_true, if_false, ite_true, ite_false, eq_self, (h1.z hz).1.1.1]
      exact fin (p + 1) w1 (f_cel_s c (by omega)) l h1
theorem ms_cellsForm (hz : md_Z m B N w0) (h : fS m w0 p w) (hp : p ≤ N) (q0 : ∀ q w', f_cls (t_K B) f_T (false, p) = (true, q) → q ≤ N → fS m w0 q w' → Φ (.inl (some (bm_i 0))) w') (q1 : ∀ q w', f_cls (t_K B) f_T (false, p) = (false, q) → q ≤ N → fS m w0 q w' → Φ (.inl (some (bm_i 1))) w') : bm_Call bm_pg (d + 9) y_X12_cellsForm [bm_r (some m)] w Φ := by
  have := ms_cells (d := d) hz f_T p w Φ h hp (by have := hz.2.2.1; show N + 1 ≤ 1501 + p; omega) q0 q1
  refine bm_enter rfl ?_
  exact this
theorem t_opr_28 {k : Int} : t_opr k 2 8 = -1 ↔ ¬ (22 ≤ k ∧ k ≤ 27) := by unfold t_opr; grind
theorem ms_result (hz : md_Z m B N w0) (h : fS m w0 p w) (hp : p ≤ N) (q0 : ∀ q w', f_res (t_K B) (false, p) = (true, q) → q ≤ N → fS m w0 q w' → Φ (.inl (some (bm_i 0))) w') (q1 : ∀ q w', f_res (t_K B) (false, p) = (false, q) → q ≤ N → fS m w0 q w' → Φ (.inl (some (bm_i 1))) w') : bm_Call bm_pg (d + 9) y_X12_resultForm [bm_r (some m)] w Φ := by
  have N5 := hz.2.2.1
  have k15 : t_kc 15 = 14 := rfl
  have k16 : t_kc 16 = 15 := rfl
  refine vc_X12_resultForm ?_
  simp only [bm_c0_v, bm_c1_v, bm_c2_v, bm_c3_v, bm_c4_v, bm_c5_v, bm_u_some, decide_eq_true_eq, true_and, and_true, and_self, Bool.not_eq_true, Bool.not_eq_true', decide_eq_false_iff_not, if_true, if_false, ite_true, ite_false, eq_self, (h.z hz).1.1.1, true_or, or_true]
  refine ms_takes hz h hp (by decide) (by decide) (fun c => ?_) (fun c l w1 h1 => ?_)
  · rw [k15] at c
    rw [bm_c1_v, if_neg (by decide)]
    simp only [bm_c0_v, bm_c1_v, bm_c2_v, bm_c3_v, bm_c4_v, bm_c5_v, bm_u_some, decide_eq_true_eq, true_and, and_true, and_self, Bool.not_eq_true, Bool.not_eq_true', decide_eq_false_iff_not, if_true, if_false, ite_true, ite_false, eq_self, (h.z hz).1.1.1]
    refine ms_takes hz h hp (by decide) (by decide) (fun c2 => ?_) (fun c2 l2 w2 h2 => ?_)
    · rw [k16] at c2
      rw [bm_c1_v, if_pos rfl]
      have Z := h.z hz
      simp only [bm_c0_v, bm_c1_v, bm_c2_v, bm_c3_v, bm_c4_v, bm_c5_v, bm_u_some, decide_eq_true_eq, true_and, and_true, and_self, Bool.not_eq_true, Bool.not_eq_true', decide_eq_false_iff_not, if_true, if_false, ite_true, ite_false, eq_self, Z.1.1.1, h.2.1, mp_operator Z hp (show (0 : Int) ≤ 2 by decide) (show (8 : Int) ≤ 13 by decide), t_opr_28]
      by_cases c3 : 22 ≤ t_K B p ∧ t_K B p ≤ 27
      · rw [if_pos (fun z => z c3)]
        have e9 := h.nx (by omega)
        rw [h.2.1] at e9
        rw [e9]
        have l3 := hz.nx hp (by omega)
        refine ⟨Z.1.1.1, ms_whole hz h.go l3 (fun q w3 e3 l3 h3 => ?_) (fun q w3 e3 l3 h3 => ?_)⟩
        · rw [bm_c1_v]
          exact ⟨Or.inl rfl, q0 q w3 ((f_res_c c3 (by omega)).trans e3) l3 h3⟩
        · rw [bm_c1_v]
          exact ⟨Or.inr rfl, q1 q w3 ((f_res_c c3 (by omega)).trans e3) l3 h3⟩
      · rw [if_neg (fun z => z c3)]
        exact q0 p w (by rw [f_res_e c c3, f_x_f c2]) hp h
    · rw [k16] at c2
      rw [bm_c1_v, if_neg (by decide)]
      exact q1 (p + 1) w2 (by rw [f_res_e c (by omega), f_x_t c2 (by omega)]) l2 h2
  · rw [k15] at c
    rw [bm_c1_v, if_pos (by decide)]
    exact q1 (p + 1) w1 (f_res_a c (by omega)) l h1
theorem ms_rows (hz : md_Z m B N w0) : ∀ (n p : Nat) (w : bm_W) (Φ : bm_Rt → bm_W → Prop), fS m w0 p w → p ≤ N → N + 1 ≤ n + p → (∀ q w', f_rws (t_K B) n (false, p) = (true, q) → q ≤ N → fS m w0 q w' → Φ (.inl (some (bm_i 0))) w') → (∀ q w', f_rws (t_K B) n (false, p) = (false, q) → q ≤ N → fS m w0 q w' → Φ (.inl (some (bm_i 1))) w') → bk_X12_rowsForm_0 (d + 9) Φ m w
  | 0, p, w, Φ, h, hp, hn, q0, q1 => by omega
  | n + 1, p, w, Φ, h, hp, hn, q0, q1 => by
    have N5 := hz.2.2.1
    have k9 : t_kc 9 = 20 := rfl
    have k13 : t_kc 13 = 21 := rfl
    refine vb_X12_rowsForm_0 ?_
    simp only [bm_c0_v, bm_c1_v, bm_c2_v, bm_c3_v, bm_c4_v, bm_c5_v, bm_u_some, decide_eq_true_eq, true_and, and_true, and_self, Bool.not_eq_true, Bool.not_eq_true', decide_eq_false_iff_not, if_true, if_false, ite_true, ite_false, eq_self, (h.z hz).1.1.1, true_or, or_true]
    have e0 : f_row (t_K B) (false, p) = f_res (t_K B) (f_x (t_K B) 20 (f_cls (t_K B) f_T (false, p))) := rfl
    refine ms_cellsForm hz h hp (fun q w1 e1 l1 h1 => ?_) (fun q w1 e1 l1 h1 => ?_)
    · rw [bm_c1_v, if_pos rfl]
      exact q0 q w1 (f_rws_x (by rw [e0, e1, f_x_d, f_res_d])) l1 h1
    rw [bm_c1_v, if_neg (by decide)]
    rw [e1] at e0
    simp only [bm_c0_v, bm_c1_v, bm_c2_v, bm_c3_v, bm_c4_v, bm_c5_v, bm_u_some, decide_eq_true_eq, true_and, and_true, and_self, Bool.not_eq_true, Bool.not_eq_true', decide_eq_false_iff_not, if_true, if_false, ite_true, ite_false, eq_self, (h1.z hz).1.1.1]
    refine ms_takes hz h1 l1 (by decide) (by decide) (fun c2 => ?_) (fun c2 l2 w2 h2 => ?_)
    · rw [k9] at c2
      rw [bm_c1_v, if_pos rfl]
      exact q0 q w1 (f_rws_x (by rw [e0, f_x_f c2, f_res_d])) l1 h1
    rw [k9] at c2
    rw [bm_c1_v, if_neg (by decide)]
    rw [f_x_t c2 (by omega)] at e0
    simp only [bm_c0_v, bm_c1_v, bm_c2_v, bm_c3_v, bm_c4_v, bm_c5_v, bm_u_some, decide_eq_true_eq, true_and, and_true, and_self, Bool.not_eq_true, Bool.not_eq_true', decide_eq_false_iff_not, if_true, if_false, ite_true, ite_false, eq_self, (h2.z hz).1.1.1]
    refine ms_result hz h2 l2 (fun q3 w3 e3 l3 h3 => ?_) (fun q3 w3 e3 l3 h3 => ?_)
    · rw [bm_c1_v, if_neg (by decide)]
      exact q0 q3 w3 (f_rws_x (by rw [e0, e3])) l3 h3
    rw [bm_c1_v, if_pos (by decide)]
    rw [e3] at e0
    have far := (f_far_row (K := t_K B) (N := N) hz.2.2.2.2 (false, p) hp).1
    rw [e0] at far
    simp only at far
    simp only [bm_c0_v, bm_c1_v, bm_c2_v, bm_c3_v, bm_c4_v, bm_c5_v, bm_u_some, decide_eq_true_eq, true_and, and_true, and_self, Bool.not_eq_true, Bool.not_eq_true', decide_eq_false_iff_not, if_true, if_false, ite_true, ite_false, eq_self, (h3.z hz).1.1.1]
    refine ms_takes hz h3 l3 (by decide) (by decide) (fun c6 => ?_) (fun c6 l6 w6 h6 => ?_)
    · rw [k13] at c6
      rw [bm_c1_v, if_neg (by decide)]
      exact q1 q3 w3 (f_rws_f e0 c6) l3 h3
    · rw [k13] at c6
      rw [bm_c1_v, if_pos (by decide)]
      have e2 := f_rws_t (n := n) e0 c6 (by omega)
      rw [e2] at q0 q1
      exact ms_rows hz n (q3 + 1) w6 Φ h6 l6 (by omega) q0 q1
theorem ms_rowsForm (hz : md_Z m B N w0) (h : fS m w0 p w) (hp : p ≤ N) (q0 : ∀ q w', f_rws (t_K B) f_T (false, p) = (true, q) → q ≤ N → fS m w0 q w' → Φ (.inl (some (bm_i 0))) w') (q1 : ∀ q w', f_rws (t_K B) f_T (false, p) = (false, q) → q ≤ N → fS m w0 q w' → Φ (.inl (some (bm_i 1))) w') : bm_Call bm_pg (d + 10) y_X12_rowsForm [bm_r (some m)] w Φ := by
  have := ms_rows (d := d) hz f_T p w Φ h hp (by have := hz.2.2.1; show N + 1 ≤ 1501 + p; omega) q0 q1
  refine bm_enter rfl ?_
  exact this
/-- a whole expression -/
theorem ms_body (hz : md_Z m B N w0) (h : fS m w0 p w) (hp : p ≤ N) (q0 : ∀ q w', f_x (t_K B) 19 (f_bod (t_K B) (false, p)) = (true, q) → q ≤ N → fS m w0 q w' → Φ (.inl (some (bm_i 0))) w') (q1 : ∀ q w', f_bod (t_K B) (false, p) = (false, q) → q ≤ N → fS m w0 q w' → Φ (.inl (some (bm_i 1))) w') : bm_Call bm_pg (d + 1266) y_X12_wholeExpression [bm_r (some m)] w Φ := by
  have Z := h.z hz
  refine vc_X12_wholeExpression ?_
  simp only [bm_c0_v, bm_c1_v, bm_c2_v, bm_c3_v, bm_c4_v, bm_c5_v, bm_u_some, decide_eq_true_eq, true_and, and_true, and_self, Bool.not_eq_true, Bool.not_eq_true', decide_eq_false_iff_not, if_true, if_false, ite_true, ite_false, eq_self, Z.1.1.1, h.2.1]
  have S1 : fS m w0 p (bm_si w m 10 (p : Int)) := ⟨h.1.si rfl, (q_gi_nk (by decide)).trans h.2.1, fun k a b => (q_gi_nk b).trans (h.2.2.1 k a b), h.2.2.2⟩
  have e10 : bm_gi (bm_si w m 10 (p : Int)) m 10 = (p : Int) := q_gi_eq
  have kt : bm_kt (bm_si w m 10 (p : Int)) m = 12 := Z.1.1.1
  generalize bm_si w m 10 (p : Int) = w1 at S1 e10 kt ⊢
  have FZ : fz m N (p + 50) p B w1 := ⟨S1.z hz, e10, rfl, hp⟩
  have ew : fW w1 m p = w1 := q_si_self S1.2.1
  have := fm_expression FZ 415 (d + 1265) 0 p (fun r w' => bm_c1 (fun x1 => (x1 = 0 ∨ x1 = 1) ∧ Φ (.inl (some (bm_i x1))) w') (fun E => Φ (.inr E) w') r) hp (by omega) (Nat.le_refl _) (by decide) (by simp; omega) (by omega) (fun x hx => ?_)
  · rw [ew] at this
    exact ⟨kt, this⟩
  have rng := FZ.rng 415 6 0 (s := (false, p)) (by decide) hp (by simp only; omega)
  have eb : f_ex (t_K B) (p + 50) 415 6 0 (false, p) = f_bod (t_K B) (false, p) := rfl
  rw [eb] at hx rng ⊢
  have S2 : fS m w0 (f_bod (t_K B) (false, p)).2 (fW w1 m (f_bod (t_K B) (false, p)).2) := ⟨S1.1.si rfl, q_gi_eq, fun k a b => (q_gi_nk a).trans (S1.2.2.1 k a b), S1.2.2.2⟩
  rw [bm_c1_v]
  rcases hx with ⟨rfl, z⟩ | ⟨rfl, z⟩
  · exact ⟨Or.inr rfl, q1 _ _ (f_eta z) rng.2.1 S2⟩
  · refine ⟨Or.inl rfl, q0 _ _ ?_ rng.2.1 S2⟩
    rcases z with z | ⟨z, z2⟩
    · have : f_bod (t_K B) (false, p) = (true, (f_bod (t_K B) (false, p)).2) := Prod.ext z rfl
      rw [this, f_x_d]
    · refine if_neg (fun y => ?_)
      have := y.2.2
      rw [z] at this
      unfold f_go at z2
      omega
end MI
