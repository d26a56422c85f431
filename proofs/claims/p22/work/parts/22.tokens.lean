/-! ===== the tokens of the class, as they are read ===== -/
def sh_Tk (t : Nat) (w : bm_W) : Prop := bm_kt w t = 9 ∧ bm_gr w t 1 = some (t + 1) ∧ bm_gr w t 2 = some (t + 2) ∧ bm_gr w t 3 = some (t + 3) ∧ bm_kt w (t + 1) = 21 ∧ bm_kn w (t + 1) = 1501 ∧ bm_kt w (t + 2) = 21 ∧ bm_kn w (t + 2) = 1501 ∧ bm_kt w (t + 3) = 22 ∧ bm_kn w (t + 3) = 1501
/-- whether a token of a kind is seen -/
abbrev tk_at (w : bm_W) (t : Nat) (k : Int) : Prop := bm_gi w t 10 = 0 ∧ 0 ≤ bm_gi w t 8 ∧ bm_gi w t 8 < bm_gi w t 9 ∧ bm_gi w t 8 < 1501 ∧ bm_gi w (t + 1) (bm_gi w t 8).toNat = k
abbrev tk_one (w : bm_W) (t : Nat) (a b : Int) : Int := if bm_gi w t 10 = 0 ∧ 0 ≤ bm_gi w t 8 ∧ bm_gi w t 8 < bm_gi w t 9 ∧ bm_gi w t 8 < 1501 ∧ a ≤ bm_gi w (t + 1) (bm_gi w t 8).toNat ∧ bm_gi w (t + 1) (bm_gi w t 8).toNat ≤ b then bm_gi w (t + 1) (bm_gi w t 8).toNat else -1
abbrev tk_start (w : bm_W) (t : Nat) : Int := if 0 ≤ bm_gi w t 8 ∧ bm_gi w t 8 < 1501 then bm_gi w (t + 2) (bm_gi w t 8).toNat else 0
abbrev tk_value (w : bm_W) (t : Nat) : Int := if 0 ≤ bm_gi w t 8 ∧ bm_gi w t 8 < 1501 then bm_gl w (t + 3) (bm_gi w t 8).toNat else 0
theorem sp_sees {d t : Nat} {k : Int} {w : bm_W} {Φ : bm_Rt → bm_W → Prop} (h : sh_Tk t w) : bm_Call bm_pg (d + 1) y_X9_sees [bm_r (some t), bm_i k] w Φ ↔ Φ (.inl (some (bm_i (if tk_at w t k then 1 else 0)))) w := by
  refine bm_ans (fun Ψ q => vc_X9_sees ?_)
  simp only [bm_c0_v, bm_c1_v, bm_c2_v, bm_c3_v, bm_c4_v, bm_c5_v, bm_u_some, decide_eq_true_eq, true_and, and_true, and_self, Bool.not_eq_true, Bool.not_eq_true', decide_eq_false_iff_not, if_true, if_false, ite_true, ite_false, eq_self, h.1, h.2.1, h.2.2.1, h.2.2.2.1, h.2.2.2.2.1, h.2.2.2.2.2.1, h.2.2.2.2.2.2.1, h.2.2.2.2.2.2.2.1, h.2.2.2.2.2.2.2.2.1, h.2.2.2.2.2.2.2.2.2, bm_in]
  grind
theorem sp_passes {d t : Nat} {k : Int} {w : bm_W} {Φ : bm_Rt → bm_W → Prop} (h : sh_Tk t w) : bm_Call bm_pg (d + 2) y_X9_passes [bm_r (some t), bm_i k] w Φ ↔ Φ (.inl (some (bm_i (if tk_at w t k then 1 else 0)))) (if tk_at w t k then bm_si w t 8 (bm_gi w t 8 + 1) else w) := by
  refine bm_ans (fun Ψ q => vc_X9_passes ?_)
  simp only [bm_c0_v, bm_c1_v, bm_c2_v, bm_c3_v, bm_c4_v, bm_c5_v, bm_u_some, decide_eq_true_eq, true_and, and_true, and_self, Bool.not_eq_true, Bool.not_eq_true', decide_eq_false_iff_not, if_true, if_false, ite_true, ite_false, eq_self, sp_sees h, h.1, h.2.1, h.2.2.1, h.2.2.2.1, h.2.2.2.2.1, h.2.2.2.2.2.1, h.2.2.2.2.2.2.1, h.2.2.2.2.2.2.2.1, h.2.2.2.2.2.2.2.2.1, h.2.2.2.2.2.2.2.2.2, bm_in]
  by_cases c : tk_at w t k
  · rw [if_pos c, if_pos c] at q
    rw [if_pos c, q_wI ⟨by omega, by omega⟩]
    grind
  · rw [if_neg c, if_neg c] at q
    rw [if_neg c]
    grind
theorem sp_fail {d t : Nat} {w : bm_W} {Φ : bm_Rt → bm_W → Prop} (h : sh_Tk t w) : bm_Call bm_pg (d + 1) y_X9_fail [bm_r (some t)] w Φ ↔ Φ (.inl none) (bm_si w t 10 1) := by
  refine bm_ans (fun Ψ q => vc_X9_fail ?_)
  simp only [bm_c0_v, bm_c1_v, bm_c2_v, bm_c3_v, bm_c4_v, bm_c5_v, bm_u_some, decide_eq_true_eq, true_and, and_true, and_self, Bool.not_eq_true, Bool.not_eq_true', decide_eq_false_iff_not, if_true, if_false, ite_true, ite_false, eq_self, h.1, h.2.1, h.2.2.1, h.2.2.2.1, h.2.2.2.2.1, h.2.2.2.2.2.1, h.2.2.2.2.2.2.1, h.2.2.2.2.2.2.2.1, h.2.2.2.2.2.2.2.2.1, h.2.2.2.2.2.2.2.2.2, q]
  grind
theorem sp_expect {d t : Nat} {k : Int} {w : bm_W} {Φ : bm_Rt → bm_W → Prop} (h : sh_Tk t w) : bm_Call bm_pg (d + 2) y_X9_expect [bm_r (some t), bm_i k] w Φ ↔ Φ (.inl (some (bm_i (if tk_at w t k then 1 else 0)))) (if tk_at w t k then bm_si w t 8 (bm_gi w t 8 + 1) else bm_si w t 10 1) := by
  refine bm_ans (fun Ψ q => vc_X9_expect ?_)
  simp only [bm_c0_v, bm_c1_v, bm_c2_v, bm_c3_v, bm_c4_v, bm_c5_v, bm_u_some, decide_eq_true_eq, true_and, and_true, and_self, Bool.not_eq_true, Bool.not_eq_true', decide_eq_false_iff_not, if_true, if_false, ite_true, ite_false, eq_self, sp_sees h, sp_fail h, h.1, h.2.1, h.2.2.1, h.2.2.2.1, h.2.2.2.2.1, h.2.2.2.2.2.1, h.2.2.2.2.2.2.1, h.2.2.2.2.2.2.2.1, h.2.2.2.2.2.2.2.2.1, h.2.2.2.2.2.2.2.2.2, bm_in]
  by_cases c : tk_at w t k
  · rw [if_pos c, if_pos c] at q
    rw [if_pos c, q_wI ⟨by omega, by omega⟩]
    grind
  · rw [if_neg c, if_neg c] at q
    rw [if_neg c]
    grind
theorem sp_oneOf {d t : Nat} {a b : Int} {w : bm_W} {Φ : bm_Rt → bm_W → Prop} (h : sh_Tk t w) : bm_Call bm_pg (d + 1) y_X9_oneOf [bm_r (some t), bm_i a, bm_i b] w Φ ↔ Φ (.inl (some (bm_i (tk_one w t a b)))) w := by
  refine bm_ans (fun Ψ q => vc_X9_oneOf ?_)
  simp only [bm_c0_v, bm_c1_v, bm_c2_v, bm_c3_v, bm_c4_v, bm_c5_v, bm_u_some, decide_eq_true_eq, true_and, and_true, and_self, Bool.not_eq_true, Bool.not_eq_true', decide_eq_false_iff_not, if_true, if_false, ite_true, ite_false, eq_self, h.1, h.2.1, h.2.2.1, h.2.2.2.1, h.2.2.2.2.1, h.2.2.2.2.2.1, h.2.2.2.2.2.2.1, h.2.2.2.2.2.2.2.1, h.2.2.2.2.2.2.2.2.1, h.2.2.2.2.2.2.2.2.2, bm_in]
  grind
theorem sp_startHere {d t : Nat} {w : bm_W} {Φ : bm_Rt → bm_W → Prop} (h : sh_Tk t w) : bm_Call bm_pg (d + 1) y_X9_startHere [bm_r (some t)] w Φ ↔ Φ (.inl (some (bm_i (tk_start w t)))) w := by
  refine bm_ans (fun Ψ q => vc_X9_startHere ?_)
  simp only [bm_c0_v, bm_c1_v, bm_c2_v, bm_c3_v, bm_c4_v, bm_c5_v, bm_u_some, decide_eq_true_eq, true_and, and_true, and_self, Bool.not_eq_true, Bool.not_eq_true', decide_eq_false_iff_not, if_true, if_false, ite_true, ite_false, eq_self, h.1, h.2.1, h.2.2.1, h.2.2.2.1, h.2.2.2.2.1, h.2.2.2.2.2.1, h.2.2.2.2.2.2.1, h.2.2.2.2.2.2.2.1, h.2.2.2.2.2.2.2.2.1, h.2.2.2.2.2.2.2.2.2, bm_in]
  grind
theorem sp_valueHere {d t : Nat} {w : bm_W} {Φ : bm_Rt → bm_W → Prop} (h : sh_Tk t w) : bm_Call bm_pg (d + 1) y_X9_valueHere [bm_r (some t)] w Φ ↔ Φ (.inl (some (bm_l (tk_value w t)))) w := by
  refine bm_ans (fun Ψ q => vc_X9_valueHere ?_)
  simp only [bm_c0_v, bm_c1_v, bm_c2_v, bm_c3_v, bm_c4_v, bm_c5_v, bm_u_some, decide_eq_true_eq, true_and, and_true, and_self, Bool.not_eq_true, Bool.not_eq_true', decide_eq_false_iff_not, if_true, if_false, ite_true, ite_false, eq_self, h.1, h.2.1, h.2.2.1, h.2.2.2.1, h.2.2.2.2.1, h.2.2.2.2.2.1, h.2.2.2.2.2.2.1, h.2.2.2.2.2.2.2.1, h.2.2.2.2.2.2.2.2.1, h.2.2.2.2.2.2.2.2.2, bm_in]
  grind
theorem sp_allow {d t : Nat} {k : Int} {w : bm_W} {Φ : bm_Rt → bm_W → Prop} (h : sh_Tk t w) : bm_Call bm_pg (d + 1) y_X9_allow [bm_r (some t), bm_i k] w Φ ↔ Φ (.inl none) (bm_si w t 9 (bm_w (bm_gi w t 8 + k))) := by
  refine bm_ans (fun Ψ q => vc_X9_allow ?_)
  simp only [bm_c0_v, bm_c1_v, bm_c2_v, bm_c3_v, bm_c4_v, bm_c5_v, bm_u_some, decide_eq_true_eq, true_and, and_true, and_self, Bool.not_eq_true, Bool.not_eq_true', decide_eq_false_iff_not, if_true, if_false, ite_true, ite_false, eq_self, h.1, h.2.1, h.2.2.1, h.2.2.2.1, h.2.2.2.2.1, h.2.2.2.2.2.1, h.2.2.2.2.2.2.1, h.2.2.2.2.2.2.2.1, h.2.2.2.2.2.2.2.2.1, h.2.2.2.2.2.2.2.2.2, q]
theorem sp_allowAll {d t : Nat} {w : bm_W} {Φ : bm_Rt → bm_W → Prop} (h : sh_Tk t w) : bm_Call bm_pg (d + 1) y_X9_allowAll [bm_r (some t)] w Φ ↔ Φ (.inl none) (bm_si w t 9 1501) := by
  refine bm_ans (fun Ψ q => vc_X9_allowAll ?_)
  simp only [bm_c0_v, bm_c1_v, bm_c2_v, bm_c3_v, bm_c4_v, bm_c5_v, bm_u_some, decide_eq_true_eq, true_and, and_true, and_self, Bool.not_eq_true, Bool.not_eq_true', decide_eq_false_iff_not, if_true, if_false, ite_true, ite_false, eq_self, h.1, h.2.1, h.2.2.1, h.2.2.2.1, h.2.2.2.2.1, h.2.2.2.2.2.1, h.2.2.2.2.2.2.1, h.2.2.2.2.2.2.2.1, h.2.2.2.2.2.2.2.2.1, h.2.2.2.2.2.2.2.2.2]
  grind
