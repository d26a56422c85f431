/-! ===== the model: the form of items ===== -/
theorem q_si_self {w : bm_W} {a k : Nat} {v : Int} (h : bm_gi w a k = v) : bm_si w a k v = w := by
  unfold bm_si
  refine Prod.ext (funext fun x => funext fun j => ?_) rfl
  show (if x = a ∧ j = k then v else w.1 x j) = w.1 x j
  split
  · rename_i c
    rw [c.1, c.2]
    exact h.symm
  · rfl
/-- the model stands at token p; besides, only where an expression begins may have changed -/
def fS (m : Nat) (w0 : bm_W) (p : Nat) (w : bm_W) : Prop := q_fr (fun a => a = m) w0 w ∧ bm_gi w m 9 = (p : Int) ∧ (∀ k, k ≠ 9 → k ≠ 10 → bm_gi w m k = bm_gi w0 m k) ∧ ∀ j, bm_gl w m j = bm_gl w0 m j
section FL
variable {K : Nat → Int} {L : Nat}
theorem f_no {q : Nat} {a b : Int} : ¬ f_see K L (true, q) a b := fun z => by have := z.1; cases this
theorem f_x_t {k : Int} {p : Nat} (h : K p = k) (hp : p ≤ 1500) : f_x K k (false, p) = (false, p + 1) := if_pos ⟨rfl, by show p < 1501; omega, by simp only; omega, by simp only; omega⟩
theorem f_x_f {k : Int} {p : Nat} (h : K p ≠ k) : f_x K k (false, p) = (true, p) := if_neg (fun z => h (by have := z.2.2; simp only at this; omega))
theorem f_x_d {k : Int} {p : Nat} : f_x K k (true, p) = (true, p) := f_exp_fail
theorem f_opt_t {k : Int} {p : Nat} (h : K p = k) (hp : p ≤ 1500) : f_opt K k (false, p) = (false, p + 1) := if_pos ⟨rfl, by show p < 1501; omega, by simp only; omega, by simp only; omega⟩
theorem f_opt_f {k : Int} {p : Nat} (h : K p ≠ k) : f_opt K k (false, p) = (false, p) := if_neg (fun z => h (by have := z.2.2; simp only at this; omega))
theorem f_opt_d {k : Int} {p : Nat} : f_opt K k (true, p) = (true, p) := if_neg f_no
theorem f_wh_d {p : Nat} : f_wh K (true, p) = (true, p) := by unfold f_wh; rw [f_opt_d, f_x_d]
theorem f_inp_d {p : Nat} : f_inp K (true, p) = (true, p) := by unfold f_inp; rw [f_x_d, f_x_d, f_wh_d, f_x_d, f_wh_d]
theorem f_ins_d {p : Nat} : ∀ n, f_ins K n (true, p) = (true, p)
  | 0 => rfl
  | n + 1 => by rw [f_ins_s, f_inp_d]; exact if_neg f_no
theorem f_cel_d {p : Nat} : f_cel K (true, p) = (true, p) := by unfold f_cel; rw [if_neg f_no, f_wh_d, if_neg f_no]
theorem f_cls_d {p : Nat} : ∀ n, f_cls K n (true, p) = (true, p)
  | 0 => rfl
  | n + 1 => by rw [f_cls_s, f_cel_d]; exact if_neg f_no
theorem f_res_d {p : Nat} : f_res K (true, p) = (true, p) := by unfold f_res; rw [if_neg f_no, if_neg f_no, f_x_d]
theorem f_row_d {p : Nat} : f_row K (true, p) = (true, p) := by unfold f_row; rw [f_cls_d, f_x_d, f_res_d]
theorem f_rws_d {p : Nat} : ∀ n, f_rws K n (true, p) = (true, p)
  | 0 => rfl
  | n + 1 => by rw [f_rws_s, f_row_d]; exact if_neg f_no
theorem f_bod_d {p : Nat} : f_bod K (true, p) = (true, p) := f_ex_true rfl (by decide)
theorem f_ins_t {n p q : Nat} (h : f_inp K (false, p) = (false, q)) (hk : K q = 18) (hq : q ≤ 1500) : f_ins K (n + 1) (false, p) = f_ins K n (false, q + 1) := by
  rw [f_ins_s, h]; exact if_pos ⟨rfl, by show q < 1501; omega, by simp only; omega, by simp only; omega⟩
theorem f_ins_f {n p q : Nat} (h : f_inp K (false, p) = (false, q)) (hk : K q ≠ 18) : f_ins K (n + 1) (false, p) = (false, q) := by
  rw [f_ins_s, h]; exact if_neg (fun z => hk (by have := z.2.2; simp only at this; omega))
theorem f_ins_x {n p q : Nat} (h : f_inp K (false, p) = (true, q)) : f_ins K (n + 1) (false, p) = (true, q) := by
  rw [f_ins_s, h]; exact if_neg f_no
theorem f_cls_t {n p q : Nat} (h : f_cel K (false, p) = (false, q)) (hk : K q = 18) (hq : q ≤ 1500) : f_cls K (n + 1) (false, p) = f_cls K n (false, q + 1) := by
  rw [f_cls_s, h]; exact if_pos ⟨rfl, by show q < 1501; omega, by simp only; omega, by simp only; omega⟩
theorem f_cls_f {n p q : Nat} (h : f_cel K (false, p) = (false, q)) (hk : K q ≠ 18) : f_cls K (n + 1) (false, p) = (false, q) := by
  rw [f_cls_s, h]; exact if_neg (fun z => hk (by have := z.2.2; simp only at this; omega))
theorem f_cls_x {n p q : Nat} (h : f_cel K (false, p) = (true, q)) : f_cls K (n + 1) (false, p) = (true, q) := by
  rw [f_cls_s, h]; exact if_neg f_no
theorem f_rws_t {n p q : Nat} (h : f_row K (false, p) = (false, q)) (hk : K q = 21) (hq : q ≤ 1500) : f_rws K (n + 1) (false, p) = f_rws K n (false, q + 1) := by
  rw [f_rws_s, h]; exact if_pos ⟨rfl, by show q < 1501; omega, by simp only; omega, by simp only; omega⟩
theorem f_rws_f {n p q : Nat} (h : f_row K (false, p) = (false, q)) (hk : K q ≠ 21) : f_rws K (n + 1) (false, p) = (false, q) := by
  rw [f_rws_s, h]; exact if_neg (fun z => hk (by have := z.2.2; simp only at this; omega))
theorem f_rws_x {n p q : Nat} (h : f_row K (false, p) = (true, q)) : f_rws K (n + 1) (false, p) = (true, q) := by
  rw [f_rws_s, h]; exact if_neg f_no
end FL
section MI
variable {d m N p : Nat} {B : Int → Int} {w0 w : bm_W} {Φ : bm_Rt → bm_W → Prop}
theorem fS.z (h : fS m w0 p w) (hz : md_Z m B N w0) : md_Z m B N w := md_Z.fr h.1 (fun j h1 _ => by omega) (h.2.2.1 2 (by decide) (by decide)) hz
theorem fS.go (h : fS m w0 p w) : fS m w0 (p + 1) (bm_si w m 9 ((p : Int) + 1)) := ⟨h.1.si rfl, by rw [q_gi_eq]; omega, fun k a b => (q_gi_nk a).trans (h.2.2.1 k a b), h.2.2.2⟩
theorem fS.nx (h : fS m w0 p w) (hp : p ≤ 1500) : bm_w (bm_gi w m 9 + 1) = (p : Int) + 1 := by rw [h.2.1, q_wI ⟨by omega, by omega⟩]
theorem md_Z.nx (hz : md_Z m B N w0) {p : Nat} (hp : p ≤ N) (hk : t_K B p ≠ 0) : p + 1 ≤ N := by
  rcases Nat.lt_or_ge p N with z | z
  · exact z
  · exact absurd (show t_K B p = 0 by rw [show p = N by omega]; exact hz.2.2.2.2) hk
theorem ms_takes (hz : md_Z m B N w0) (h : fS m w0 p w) (hp : p ≤ N) {c : Nat} (h1 : 1 ≤ c) (h2 : c < 31) (q0 : t_K B p ≠ t_kc c → Φ (.inl (some (bm_i 0))) w) (q1 : t_K B p = t_kc c → p + 1 ≤ N → ∀ w', fS m w0 (p + 1) w' → Φ (.inl (some (bm_i 1))) w') : bm_Call bm_pg (d + 7) y_X12_takes [bm_r (some m), bm_k (0, c)] w Φ := by
  have Z := h.z hz
  have N5 := hz.2.2.1
  refine vc_X12_takes ?_
  simp only [bm_c0_v, bm_c1_v, bm_c2_v, bm_c3_v, bm_c4_v, bm_c5_v, bm_u_some, decide_eq_true_eq, true_and, and_true, and_self, Bool.not_eq_true, Bool.not_eq_true', decide_eq_false_iff_not, if_true, if_false, ite_true, ite_false, eq_self, Z.1.1.1, true_or, or_true, mp_sees Z h.2.1 hp h1 h2, h.nx (by omega)]
  by_cases c1 : t_K B p = t_kc c
  · rw [if_pos c1, if_pos (by decide)]
    have r := t_kc_rng c h1 h2
    exact q1 c1 (hz.nx hp (by omega)) _ h.go
  · rw [if_neg c1, if_neg (by decide)]
    exact q0 c1
theorem ms_name (hz : md_Z m B N w0) (h : fS m w0 p w) (hp : p ≤ N) (q0 : t_K B p ≠ 3 → Φ (.inl (some (bm_i 0))) w) (q1 : t_K B p = 3 → p + 1 ≤ N → ∀ w', fS m w0 (p + 1) w' → Φ (.inl (some (bm_i 1))) w') : bm_Call bm_pg (d + 7) y_X12_takesName [bm_r (some m)] w Φ := by
  have Z := h.z hz
  have N5 := hz.2.2.1
  refine vc_X12_takesName ?_
  simp only [bm_c0_v, bm_c1_v, bm_c2_v, bm_c3_v, bm_c4_v, bm_c5_v, bm_u_some, decide_eq_true_eq, true_and, and_true, and_self, Bool.not_eq_true, Bool.not_eq_true', decide_eq_false_iff_not, if_true, if_false, ite_true, ite_false, eq_self, Z.1.1.1, true_or, or_true, h.2.1, mp_isName Z hp]
  have e := h.nx (by omega)
  rw [h.2.1] at e
  rw [e]
  by_cases c1 : t_K B p = 3
  · rw [if_pos c1, if_pos (by decide)]
    exact q1 c1 (hz.nx hp (by omega)) _ h.go
  · rw [if_neg c1, if_neg (by decide)]
    exact q0 c1
theorem ms_whole (hz : md_Z m B N w0) (h : fS m w0 p w) (hp : p ≤ N) (q0 : ∀ q w', f_wh (t_K B) (false, p) = (true, q) → q ≤ N → fS m w0 q w' → Φ (.inl (some (bm_i 0))) w') (q1 : ∀ q w', f_wh (t_K B) (false, p) = (false, q) → q ≤ N → fS m w0 q w' → Φ (.inl (some (bm_i 1))) w') : bm_Call bm_pg (d + 8) y_X12_takesWhole [bm_r (some m)] w Φ := by
  have N5 := hz.2.2.1
  refine vc_X12_takesWhole ?_
  simp only [bm_c0_v, bm_c1_v, bm_c2_v, bm_c3_v, bm_c4_v, bm_c5_v, bm_u_some, decide_eq_true_eq, true_and, and_true, and_self, Bool.not_eq_true, Bool.not_eq_true', decide_eq_false_iff_not, if_true, if_false, ite_true, ite_false, eq_self, (h.z hz).1.1.1, true_or, or_true]
  -- behind the sign
  have fin : ∀ q w1, q ≤ N → fS m w0 q w1 → f_wh (t_K B) (false, p) = f_x (t_K B) 2 (false, q) → (bm_kt w1 m = 12 ∧ bm_gr w1 m 4 = some (bm_u (bm_gr w1 m 4))) ∧
    (bm_kt w1 m = 12) ∧
    (bm_kt w1 (bm_u (bm_gr w1 m 4)) = 21 ∧ bm_in (bm_gi w1 m 9) (bm_kn w1 (bm_u (bm_gr w1 m 4)))) ∧
    (if (bm_gi w1 (bm_u (bm_gr w1 m 4)) ((bm_gi w1 m 9)).toNat) = (2 : Int) then
      (bm_kt w1 m = 12) ∧ (bm_kt w1 m = 12) ∧ Φ (.inl (some (bm_i (1 : Int)))) (bm_si w1 m 9 (bm_w ((bm_gi w1 m 9) + (1 : Int))))
    else Φ (.inl (some (bm_i (0 : Int)))) w1) := by
    intro q w1 hq h1 e
    have Z1 := h1.z hz
    have kr : 0 ≤ t_K B q := (t_k_rng B (t_P B q)).1
    have tb := (Z1.2.1 q (by omega)).1
    simp only [bm_c0_v, bm_c1_v, bm_c2_v, bm_c3_v, bm_c4_v, bm_c5_v, bm_u_some, decide_eq_true_eq, true_and, and_true, and_self, Bool.not_eq_true, Bool.not_eq_true', decide_eq_false_iff_not, if_true, if_false, ite_true, ite_false, eq_self, Z1.1.1.1, Z1.1.1.g4, Z1.1.1.t4, Z1.1.1.n4, bm_in, h1.2.1, Int.toNat_natCast, tb, t_mk_2 (t_K B q) kr]
    refine ⟨by omega, ?_⟩
    by_cases c2 : t_K B q = 2
    · rw [if_pos c2]
      have e9 := h1.nx (by omega)
      rw [h1.2.1] at e9
      rw [e9]
      have l1 := hz.nx hq (by omega)
      exact q1 (q + 1) _ (by rw [e, f_x_t c2 (by omega)]) l1 h1.go
    · rw [if_neg c2]
      exact q0 q _ (by rw [e, f_x_f c2]) hq h1
  have k1 : t_kc 1 = 29 := rfl
  refine ms_takes (d := d) hz h hp (by decide) (by decide) (fun c => ?_) (fun c l w1 h1 => ?_)
  · rw [bm_c1_v]
    have := fin p w hp h (by unfold f_wh; rw [f_opt_f (by rw [← k1]; exact c)])
    exact this
  · rw [bm_c1_v]
    have := fin (p + 1) w1 l h1 (by unfold f_wh; rw [f_opt_t (by rw [← k1]; exact c) (by omega)])
    exact this
end MI
