/-! ===== functions of the class ===== -/
def sh_Fn (f : Nat) (w : bm_W) : Prop := bm_kt w f = 1 ∧ bm_gr w f 0 = some (f + 1) ∧ bm_gr w f 1 = some (f + 2) ∧ bm_gr w f 2 = some (f + 5) ∧ bm_gr w f 3 = some (f + 6) ∧ bm_gr w f 4 = some (f + 7) ∧ bm_kt w (f + 1) = 22 ∧ bm_kn w (f + 1) = 3 ∧ bm_kt w (f + 5) = 21 ∧ bm_kn w (f + 5) = 100 ∧ bm_kt w (f + 6) = 21 ∧ bm_kn w (f + 6) = 100 ∧ bm_kt w (f + 7) = 21 ∧ bm_kn w (f + 7) = 100 ∧ sh_Rg (f + 2) w
theorem sh_Fn.rg {f : Nat} {w : bm_W} (h : sh_Fn f w) : sh_Rg (f + 2) w := h.2.2.2.2.2.2.2.2.2.2.2.2.2.2
theorem sh_Fn.fr {A : Nat → Prop} {f : Nat} {w w' : bm_W} (h : q_fr A w w') (hT : sh_Fn f w) : sh_Fn f w' := by
  unfold sh_Fn
  rw [h.kt, h.kn, h.gr]
  obtain ⟨h1, h2, h3, h4, h5, h6, h7, h8, h9, h10, h11, h12, h13, h14, h15⟩ := hT
  exact ⟨h1, h2, h3, h4, h5, h6, h7, h8, h9, h10, h11, h12, h13, h14, h15.fr h⟩
def fn_emit (w : bm_W) (f : Nat) (op a p : Int) : bm_W := if 0 ≤ bm_gi w f 7 ∧ bm_gi w f 7 < 100 then bm_si (bm_si (bm_si (bm_si w (f + 5) (bm_gi w f 7).toNat op) (f + 6) (bm_gi w f 7).toNat a) (f + 7) (bm_gi w f 7).toNat p) f 7 (bm_gi w f 7 + 1) else w
theorem sp_emit {d f : Nat} {op a p : Int} {w : bm_W} {Φ : bm_Rt → bm_W → Prop} (h : sh_Fn f w) : bm_Call bm_pg (d + 1) y_X1_emit [bm_r (some f), bm_i op, bm_i a, bm_i p] w Φ ↔ Φ (.inl (some (bm_i (bm_gi w f 7)))) (fn_emit w f op a p) := by
  refine bm_ans (fun Ψ q => vc_X1_emit ?_)
  unfold fn_emit at q
  by_cases c : 0 ≤ bm_gi w f 7 ∧ bm_gi w f 7 < 100
  · rw [if_pos c] at q
    simp only [bm_c0_v, bm_c1_v, bm_c2_v, bm_c3_v, bm_c4_v, bm_c5_v, bm_u_some, decide_eq_true_eq, true_and, and_true, and_self, Bool.not_eq_true, Bool.not_eq_true', decide_eq_false_iff_not, if_true, if_false, ite_true, ite_false, eq_self, h.1, h.2.1, h.2.2.1, h.2.2.2.1, h.2.2.2.2.1, h.2.2.2.2.2.1, h.2.2.2.2.2.2.1, h.2.2.2.2.2.2.2.1, h.2.2.2.2.2.2.2.2.1, h.2.2.2.2.2.2.2.2.2.1, h.2.2.2.2.2.2.2.2.2.2.1, h.2.2.2.2.2.2.2.2.2.2.2.1, h.2.2.2.2.2.2.2.2.2.2.2.2.1, h.2.2.2.2.2.2.2.2.2.2.2.2.2.1, h.2.2.2.2.2.2.2.2.2.2.2.2.2.2, bm_in, bm_si_kt, bm_si_kn, bm_si_sz, bm_si_sl, bm_si_gi, bm_si_gl, bm_si_gr, bm_sq_kt, bm_sq_kn, bm_sq_sz, bm_sq_sl, bm_sq_gi, bm_sq_gl, bm_sq_gr, bm_sr_kt, bm_sr_kn, bm_sr_sz, bm_sr_sl, bm_sr_gi, bm_sr_gl, bm_sr_gr]
    have e1 : ¬ bm_gi w f 7 < 0 := by omega
    have e2 : ¬ ((100 : Nat) : Int) ≤ bm_gi w f 7 := by omega
    have e3 : ¬ f = f + 5 := by omega
    have e4 : ¬ f = f + 6 := by omega
    have e5 : ¬ f = f + 7 := by omega
    simp only [e1, e2, if_false, h.1, h.2.1, h.2.2.1, h.2.2.2.1, h.2.2.2.2.1, h.2.2.2.2.2.1, h.2.2.2.2.2.2.1, h.2.2.2.2.2.2.2.1, h.2.2.2.2.2.2.2.2.1, h.2.2.2.2.2.2.2.2.2.1, h.2.2.2.2.2.2.2.2.2.2.1, h.2.2.2.2.2.2.2.2.2.2.2.1, h.2.2.2.2.2.2.2.2.2.2.2.2.1, h.2.2.2.2.2.2.2.2.2.2.2.2.2.1, h.2.2.2.2.2.2.2.2.2.2.2.2.2.2, e3, e4, e5, false_and, q_wI (x := bm_gi w f 7 + 1) ⟨by omega, by omega⟩]
    exact ⟨by decide, by decide, by decide, ⟨by omega, by omega⟩, ⟨by omega, by omega⟩, ⟨by omega, by omega⟩, vb_X1_emit_75 q⟩
  · rw [if_neg c] at q
    have q' := vb_X1_emit_75 (d := d) q
    simp only [bm_c0_v, bm_c1_v, bm_c2_v, bm_c3_v, bm_c4_v, bm_c5_v, bm_u_some, decide_eq_true_eq, true_and, and_true, and_self, Bool.not_eq_true, Bool.not_eq_true', decide_eq_false_iff_not, if_true, if_false, ite_true, ite_false, eq_self, h.1, h.2.1, h.2.2.1, h.2.2.2.1, h.2.2.2.2.1, h.2.2.2.2.2.1, h.2.2.2.2.2.2.1, h.2.2.2.2.2.2.2.1, h.2.2.2.2.2.2.2.2.1, h.2.2.2.2.2.2.2.2.2.1, h.2.2.2.2.2.2.2.2.2.2.1, h.2.2.2.2.2.2.2.2.2.2.2.1, h.2.2.2.2.2.2.2.2.2.2.2.2.1, h.2.2.2.2.2.2.2.2.2.2.2.2.2.1, h.2.2.2.2.2.2.2.2.2.2.2.2.2.2, bm_in]
    split
    · exact q'
    · refine ⟨by decide, ?_⟩
      rw [if_pos (by omega)]
      exact q'
theorem sp_aim {d f : Nat} {j : Int} {w : bm_W} {Φ : bm_Rt → bm_W → Prop} (h : sh_Fn f w) : bm_Call bm_pg (d + 1) y_X1_aimHere [bm_r (some f), bm_i j] w Φ ↔ Φ (.inl none) (if 0 ≤ j ∧ j < 100 then bm_si w (f + 6) j.toNat (bm_gi w f 7) else w) := by
  refine bm_ans (fun Ψ q => vc_X1_aimHere ?_)
  simp only [bm_c0_v, bm_c1_v, bm_c2_v, bm_c3_v, bm_c4_v, bm_c5_v, bm_u_some, decide_eq_true_eq, true_and, and_true, and_self, Bool.not_eq_true, Bool.not_eq_true', decide_eq_false_iff_not, if_true, if_false, ite_true, ite_false, eq_self, h.1, h.2.1, h.2.2.1, h.2.2.2.1, h.2.2.2.2.1, h.2.2.2.2.2.1, h.2.2.2.2.2.2.1, h.2.2.2.2.2.2.2.1, h.2.2.2.2.2.2.2.2.1, h.2.2.2.2.2.2.2.2.2.1, h.2.2.2.2.2.2.2.2.2.2.1, h.2.2.2.2.2.2.2.2.2.2.2.1, h.2.2.2.2.2.2.2.2.2.2.2.2.1, h.2.2.2.2.2.2.2.2.2.2.2.2.2.1, h.2.2.2.2.2.2.2.2.2.2.2.2.2.2, bm_in]
  grind
theorem sp_nextPlace {d f : Nat} {w : bm_W} {Φ : bm_Rt → bm_W → Prop} (h : sh_Fn f w) : bm_Call bm_pg (d + 1) y_X1_nextPlace [bm_r (some f)] w Φ ↔ Φ (.inl (some (bm_i (bm_w (bm_w (bm_gi w f 8 + 1) - 1))))) (bm_si w f 8 (bm_w (bm_gi w f 8 + 1))) := by
  refine bm_ans (fun Ψ q => vc_X1_nextPlace ?_)
  simp only [bm_c0_v, bm_c1_v, bm_c2_v, bm_c3_v, bm_c4_v, bm_c5_v, bm_u_some, decide_eq_true_eq, true_and, and_true, and_self, Bool.not_eq_true, Bool.not_eq_true', decide_eq_false_iff_not, if_true, if_false, ite_true, ite_false, eq_self, h.1, h.2.1, h.2.2.1, h.2.2.2.1, h.2.2.2.2.1, h.2.2.2.2.2.1, h.2.2.2.2.2.2.1, h.2.2.2.2.2.2.2.1, h.2.2.2.2.2.2.2.2.1, h.2.2.2.2.2.2.2.2.2.1, h.2.2.2.2.2.2.2.2.2.2.1, h.2.2.2.2.2.2.2.2.2.2.2.1, h.2.2.2.2.2.2.2.2.2.2.2.2.1, h.2.2.2.2.2.2.2.2.2.2.2.2.2.1, h.2.2.2.2.2.2.2.2.2.2.2.2.2.2, bm_si_kt, bm_si_kn, bm_si_sz, bm_si_sl, bm_si_gi, bm_si_gl, bm_si_gr, bm_sq_kt, bm_sq_kn, bm_sq_sz, bm_sq_sl, bm_sq_gi, bm_sq_gl, bm_sq_gr, bm_sr_kt, bm_sr_kn, bm_sr_sz, bm_sr_sl, bm_sr_gi, bm_sr_gl, bm_sr_gr]
  exact q
theorem sp_opAt {d f : Nat} {j : Int} {w : bm_W} {Φ : bm_Rt → bm_W → Prop} (h : sh_Fn f w) : bm_Call bm_pg (d + 1) y_X1_operationAt [bm_r (some f), bm_i j] w Φ ↔ Φ (.inl (some (bm_i (if 0 ≤ j ∧ j < 100 then bm_gi w (f + 5) j.toNat else 37)))) w := by
  refine bm_ans (fun Ψ q => vc_X1_operationAt ?_)
  simp only [bm_c0_v, bm_c1_v, bm_c2_v, bm_c3_v, bm_c4_v, bm_c5_v, bm_u_some, decide_eq_true_eq, true_and, and_true, and_self, Bool.not_eq_true, Bool.not_eq_true', decide_eq_false_iff_not, if_true, if_false, ite_true, ite_false, eq_self, h.1, h.2.1, h.2.2.1, h.2.2.2.1, h.2.2.2.2.1, h.2.2.2.2.2.1, h.2.2.2.2.2.2.1, h.2.2.2.2.2.2.2.1, h.2.2.2.2.2.2.2.2.1, h.2.2.2.2.2.2.2.2.2.1, h.2.2.2.2.2.2.2.2.2.2.1, h.2.2.2.2.2.2.2.2.2.2.2.1, h.2.2.2.2.2.2.2.2.2.2.2.2.1, h.2.2.2.2.2.2.2.2.2.2.2.2.2.1, h.2.2.2.2.2.2.2.2.2.2.2.2.2.2, bm_in]
  grind
theorem sp_opdAt {d f : Nat} {j : Int} {w : bm_W} {Φ : bm_Rt → bm_W → Prop} (h : sh_Fn f w) : bm_Call bm_pg (d + 1) y_X1_operandAt [bm_r (some f), bm_i j] w Φ ↔ Φ (.inl (some (bm_i (if 0 ≤ j ∧ j < 100 then bm_gi w (f + 6) j.toNat else 0)))) w := by
  refine bm_ans (fun Ψ q => vc_X1_operandAt ?_)
  simp only [bm_c0_v, bm_c1_v, bm_c2_v, bm_c3_v, bm_c4_v, bm_c5_v, bm_u_some, decide_eq_true_eq, true_and, and_true, and_self, Bool.not_eq_true, Bool.not_eq_true', decide_eq_false_iff_not, if_true, if_false, ite_true, ite_false, eq_self, h.1, h.2.1, h.2.2.1, h.2.2.2.1, h.2.2.2.2.1, h.2.2.2.2.2.1, h.2.2.2.2.2.2.1, h.2.2.2.2.2.2.2.1, h.2.2.2.2.2.2.2.2.1, h.2.2.2.2.2.2.2.2.2.1, h.2.2.2.2.2.2.2.2.2.2.1, h.2.2.2.2.2.2.2.2.2.2.2.1, h.2.2.2.2.2.2.2.2.2.2.2.2.1, h.2.2.2.2.2.2.2.2.2.2.2.2.2.1, h.2.2.2.2.2.2.2.2.2.2.2.2.2.2, bm_in]
  grind
theorem sp_plAt {d f : Nat} {j : Int} {w : bm_W} {Φ : bm_Rt → bm_W → Prop} (h : sh_Fn f w) : bm_Call bm_pg (d + 1) y_X1_placeAt [bm_r (some f), bm_i j] w Φ ↔ Φ (.inl (some (bm_i (if 0 ≤ j ∧ j < 100 then bm_gi w (f + 7) j.toNat else -1)))) w := by
  refine bm_ans (fun Ψ q => vc_X1_placeAt ?_)
  simp only [bm_c0_v, bm_c1_v, bm_c2_v, bm_c3_v, bm_c4_v, bm_c5_v, bm_u_some, decide_eq_true_eq, true_and, and_true, and_self, Bool.not_eq_true, Bool.not_eq_true', decide_eq_false_iff_not, if_true, if_false, ite_true, ite_false, eq_self, h.1, h.2.1, h.2.2.1, h.2.2.2.1, h.2.2.2.2.1, h.2.2.2.2.2.1, h.2.2.2.2.2.2.1, h.2.2.2.2.2.2.2.1, h.2.2.2.2.2.2.2.2.1, h.2.2.2.2.2.2.2.2.2.1, h.2.2.2.2.2.2.2.2.2.2.1, h.2.2.2.2.2.2.2.2.2.2.2.1, h.2.2.2.2.2.2.2.2.2.2.2.2.1, h.2.2.2.2.2.2.2.2.2.2.2.2.2.1, h.2.2.2.2.2.2.2.2.2.2.2.2.2.2, bm_in]
  grind
def fn_in (w : bm_W) (f : Nat) (v : Int) : Int := if 0 < bm_gi w f 6 ∧ bm_gl w (f + 1) 0 = v then 0 else if 1 < bm_gi w f 6 ∧ bm_gl w (f + 1) 1 = v then 1 else if 2 < bm_gi w f 6 ∧ bm_gl w (f + 1) 2 = v then 2 else -1
theorem sp_inputNamed {d f : Nat} {v : Int} {w : bm_W} {Φ : bm_Rt → bm_W → Prop} (h : sh_Fn f w) : bm_Call bm_pg (d + 1) y_X1_inputNamed [bm_r (some f), bm_l v] w Φ ↔ Φ (.inl (some (bm_i (fn_in w f v)))) w := by
  refine bm_ans (fun Ψ q => vc_X1_inputNamed ?_)
  unfold fn_in at q
  refine vb_X1_inputNamed_2 ?_
  have w1 : bm_w (0 + 1) = 1 := by decide
  have w2 : bm_w (1 + 1) = 2 := by decide
  have w3 : bm_w (2 + 1) = 3 := by decide
  have st : ∀ i : Int, bk_X1_inputNamed_2 d Ψ f v i w = bk_X1_inputNamed_2 d Ψ f v i w := fun _ => rfl
  have k3 : Ψ (.inl (some (bm_i (-1)))) w → bk_X1_inputNamed_2 d Ψ f v 3 w := by
    intro q
    refine vb_X1_inputNamed_2 ?_
    simp only [bm_c0_v, bm_c1_v, bm_c2_v, bm_c3_v, bm_c4_v, bm_c5_v, bm_u_some, decide_eq_true_eq, true_and, and_true, and_self, Bool.not_eq_true, Bool.not_eq_true', decide_eq_false_iff_not, if_true, if_false, ite_true, ite_false, eq_self, h.1, h.2.1, h.2.2.1, h.2.2.2.1, h.2.2.2.2.1, h.2.2.2.2.2.1, h.2.2.2.2.2.2.1, h.2.2.2.2.2.2.2.1, h.2.2.2.2.2.2.2.2.1, h.2.2.2.2.2.2.2.2.2.1, h.2.2.2.2.2.2.2.2.2.2.1, h.2.2.2.2.2.2.2.2.2.2.2.1, h.2.2.2.2.2.2.2.2.2.2.2.2.1, h.2.2.2.2.2.2.2.2.2.2.2.2.2.1, h.2.2.2.2.2.2.2.2.2.2.2.2.2.2, bm_in]
    grind
  have k2 : (if 2 < bm_gi w f 6 then (if bm_gl w (f + 1) 2 = v then Ψ (.inl (some (bm_i 2))) w else bk_X1_inputNamed_2 d Ψ f v 3 w) else Ψ (.inl (some (bm_i (-1)))) w) → bk_X1_inputNamed_2 d Ψ f v 2 w := by
    intro q
    refine vb_X1_inputNamed_2 ?_
    simp only [bm_c0_v, bm_c1_v, bm_c2_v, bm_c3_v, bm_c4_v, bm_c5_v, bm_u_some, decide_eq_true_eq, true_and, and_true, and_self, Bool.not_eq_true, Bool.not_eq_true', decide_eq_false_iff_not, if_true, if_false, ite_true, ite_false, eq_self, h.1, h.2.1, h.2.2.1, h.2.2.2.1, h.2.2.2.2.1, h.2.2.2.2.2.1, h.2.2.2.2.2.2.1, h.2.2.2.2.2.2.2.1, h.2.2.2.2.2.2.2.2.1, h.2.2.2.2.2.2.2.2.2.1, h.2.2.2.2.2.2.2.2.2.2.1, h.2.2.2.2.2.2.2.2.2.2.2.1, h.2.2.2.2.2.2.2.2.2.2.2.2.1, h.2.2.2.2.2.2.2.2.2.2.2.2.2.1, h.2.2.2.2.2.2.2.2.2.2.2.2.2.2, bm_in, w3]
    grind
  have k1 : (if 1 < bm_gi w f 6 then (if bm_gl w (f + 1) 1 = v then Ψ (.inl (some (bm_i 1))) w else bk_X1_inputNamed_2 d Ψ f v 2 w) else Ψ (.inl (some (bm_i (-1)))) w) → bk_X1_inputNamed_2 d Ψ f v 1 w := by
    intro q
    refine vb_X1_inputNamed_2 ?_
    simp only [bm_c0_v, bm_c1_v, bm_c2_v, bm_c3_v, bm_c4_v, bm_c5_v, bm_u_some, decide_eq_true_eq, true_and, and_true, and_self, Bool.not_eq_true, Bool.not_eq_true', decide_eq_false_iff_not, if_true, if_false, ite_true, ite_false, eq_self, h.1, h.2.1, h.2.2.1, h.2.2.2.1, h.2.2.2.2.1, h.2.2.2.2.2.1, h.2.2.2.2.2.2.1, h.2.2.2.2.2.2.2.1, h.2.2.2.2.2.2.2.2.1, h.2.2.2.2.2.2.2.2.2.1, h.2.2.2.2.2.2.2.2.2.2.1, h.2.2.2.2.2.2.2.2.2.2.2.1, h.2.2.2.2.2.2.2.2.2.2.2.2.1, h.2.2.2.2.2.2.2.2.2.2.2.2.2.1, h.2.2.2.2.2.2.2.2.2.2.2.2.2.2, bm_in, w2]
    grind
  simp only [bm_c0_v, bm_c1_v, bm_c2_v, bm_c3_v, bm_c4_v, bm_c5_v, bm_u_some, decide_eq_true_eq, true_and, and_true, and_self, Bool.not_eq_true, Bool.not_eq_true', decide_eq_false_iff_not, if_true, if_false, ite_true, ite_false, eq_self, h.1, h.2.1, h.2.2.1, h.2.2.2.1, h.2.2.2.2.1, h.2.2.2.2.2.1, h.2.2.2.2.2.2.1, h.2.2.2.2.2.2.2.1, h.2.2.2.2.2.2.2.2.1, h.2.2.2.2.2.2.2.2.2.1, h.2.2.2.2.2.2.2.2.2.2.1, h.2.2.2.2.2.2.2.2.2.2.2.1, h.2.2.2.2.2.2.2.2.2.2.2.2.1, h.2.2.2.2.2.2.2.2.2.2.2.2.2.1, h.2.2.2.2.2.2.2.2.2.2.2.2.2.2, bm_in, w1]
  grind (splits := 20)
def fn_add (w : bm_W) (f : Nat) (nm lo hi : Int) : bm_W := if 0 ≤ bm_gi w f 6 ∧ bm_gi w f 6 < 3 then bm_si (rg_put (bm_sq w (f + 1) (bm_gi w f 6).toNat nm) (f + 2) (bm_gi w f 6) lo hi) f 6 (bm_gi w f 6 + 1) else w
theorem sp_addInput {d f : Nat} {nm lo hi : Int} {w : bm_W} {Φ : bm_Rt → bm_W → Prop} (h : sh_Fn f w) : bm_Call bm_pg (d + 2) y_X1_addInput [bm_r (some f), bm_l nm, bm_i lo, bm_i hi] w Φ ↔ Φ (.inl none) (fn_add w f nm lo hi) := by
  refine bm_ans (fun Ψ q => vc_X1_addInput ?_)
  unfold fn_add at q
  by_cases c : 0 ≤ bm_gi w f 6 ∧ bm_gi w f 6 < 3
  · rw [if_pos c] at q
    have e1 : ¬ bm_gi w f 6 < 0 := by omega
    have e2 : ¬ ((3 : Nat) : Int) ≤ bm_gi w f 6 := by omega
    have hr : sh_Rg (f + 2) (bm_sq w (f + 1) (bm_gi w f 6).toNat nm) := h.rg
    simp only [bm_c0_v, bm_c1_v, bm_c2_v, bm_c3_v, bm_c4_v, bm_c5_v, bm_u_some, decide_eq_true_eq, true_and, and_true, and_self, Bool.not_eq_true, Bool.not_eq_true', decide_eq_false_iff_not, if_true, if_false, ite_true, ite_false, eq_self, h.1, h.2.1, h.2.2.1, h.2.2.2.1, h.2.2.2.2.1, h.2.2.2.2.2.1, h.2.2.2.2.2.2.1, h.2.2.2.2.2.2.2.1, h.2.2.2.2.2.2.2.2.1, h.2.2.2.2.2.2.2.2.2.1, h.2.2.2.2.2.2.2.2.2.2.1, h.2.2.2.2.2.2.2.2.2.2.2.1, h.2.2.2.2.2.2.2.2.2.2.2.2.1, h.2.2.2.2.2.2.2.2.2.2.2.2.2.1, h.2.2.2.2.2.2.2.2.2.2.2.2.2.2, bm_in, bm_si_kt, bm_si_kn, bm_si_sz, bm_si_sl, bm_si_gi, bm_si_gl, bm_si_gr, bm_sq_kt, bm_sq_kn, bm_sq_sz, bm_sq_sl, bm_sq_gi, bm_sq_gl, bm_sq_gr, bm_sr_kt, bm_sr_kn, bm_sr_sz, bm_sr_sl, bm_sr_gi, bm_sr_gl, bm_sr_gr, e1, e2, sp_put hr]
    have F : q_fr (fun a => f + 1 ≤ a) w (rg_put (bm_sq w (f + 1) (bm_gi w f 6).toNat nm) (f + 2) (bm_gi w f 6) lo hi) := rg_put_fr (q_fr.rf.sq (by omega)) (by omega) (by omega)
    have g6 : bm_gi (rg_put (bm_sq w (f + 1) (bm_gi w f 6).toNat nm) (f + 2) (bm_gi w f 6) lo hi) f 6 = bm_gi w f 6 := F.gi (by omega)
    simp only [F.kt, h.1, g6, q_wI (x := bm_gi w f 6 + 1) ⟨by omega, by omega⟩, true_and, if_false]
    exact ⟨by decide, by omega, h.rg.1, q⟩
  · rw [if_neg c] at q
    simp only [bm_c0_v, bm_c1_v, bm_c2_v, bm_c3_v, bm_c4_v, bm_c5_v, bm_u_some, decide_eq_true_eq, true_and, and_true, and_self, Bool.not_eq_true, Bool.not_eq_true', decide_eq_false_iff_not, if_true, if_false, ite_true, ite_false, eq_self, h.1, h.2.1, h.2.2.1, h.2.2.2.1, h.2.2.2.2.1, h.2.2.2.2.2.1, h.2.2.2.2.2.2.1, h.2.2.2.2.2.2.2.1, h.2.2.2.2.2.2.2.2.1, h.2.2.2.2.2.2.2.2.2.1, h.2.2.2.2.2.2.2.2.2.2.1, h.2.2.2.2.2.2.2.2.2.2.2.1, h.2.2.2.2.2.2.2.2.2.2.2.2.1, h.2.2.2.2.2.2.2.2.2.2.2.2.2.1, h.2.2.2.2.2.2.2.2.2.2.2.2.2.2, bm_in]
    split
    · exact q
    · refine ⟨by decide, ?_⟩
      rw [if_pos (by omega)]
      exact q
def fn_clr (w : bm_W) (f : Nat) : bm_W := bm_si (bm_si (bm_si (bm_si (bm_sq (rg_clr w (f + 2)) f 5 0) f 6 0) f 7 0) f 8 0) f 9 0
theorem sp_fclear {d f : Nat} {w : bm_W} {Φ : bm_Rt → bm_W → Prop} (h : sh_Fn f w) : bm_Call bm_pg (d + 3) y_X1_clear [bm_r (some f)] w Φ ↔ Φ (.inl none) (fn_clr w f) := by
  refine bm_ans (fun Ψ q => vc_X1_clear ?_)
  have F : q_fr (fun a => f + 1 ≤ a) w (rg_clr w (f + 2)) := rg_clr_fr q_fr.rf (by omega) (by omega)
  simp only [bm_c0_v, bm_c1_v, bm_c2_v, bm_c3_v, bm_c4_v, bm_c5_v, bm_u_some, decide_eq_true_eq, true_and, and_true, and_self, Bool.not_eq_true, Bool.not_eq_true', decide_eq_false_iff_not, if_true, if_false, ite_true, ite_false, eq_self, h.1, h.2.1, h.2.2.1, h.2.2.2.1, h.2.2.2.2.1, h.2.2.2.2.2.1, h.2.2.2.2.2.2.1, h.2.2.2.2.2.2.2.1, h.2.2.2.2.2.2.2.2.1, h.2.2.2.2.2.2.2.2.2.1, h.2.2.2.2.2.2.2.2.2.2.1, h.2.2.2.2.2.2.2.2.2.2.2.1, h.2.2.2.2.2.2.2.2.2.2.2.2.1, h.2.2.2.2.2.2.2.2.2.2.2.2.2.1, h.2.2.2.2.2.2.2.2.2.2.2.2.2.2, bm_si_kt, bm_si_kn, bm_si_sz, bm_si_sl, bm_si_gi, bm_si_gl, bm_si_gr, bm_sq_kt, bm_sq_kn, bm_sq_sz, bm_sq_sl, bm_sq_gi, bm_sq_gl, bm_sq_gr, bm_sr_kt, bm_sr_kn, bm_sr_sz, bm_sr_sl, bm_sr_gi, bm_sr_gl, bm_sr_gr, sp_rclear h.rg, F.kt, h.rg.1]
  refine vb_X1_clear_27 ?_
  simp only [bm_si_kt, bm_si_kn, bm_si_sz, bm_si_sl, bm_si_gi, bm_si_gl, bm_si_gr, bm_sq_kt, bm_sq_kn, bm_sq_sz, bm_sq_sl, bm_sq_gi, bm_sq_gl, bm_sq_gr, bm_sr_kt, bm_sr_kn, bm_sr_sz, bm_sr_sl, bm_sr_gi, bm_sr_gl, bm_sr_gr, F.kt, h.1, true_and]
  exact q
