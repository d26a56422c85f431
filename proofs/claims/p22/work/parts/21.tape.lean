/-! ===== the tape of the class ===== -/
def sh_Tp (t : Nat) (w : bm_W) : Prop := bm_kt w t = 8 ∧ bm_gr w t 0 = some (t + 1) ∧ bm_kt w (t + 1) = 20 ∧ bm_kn w (t + 1) = 1500
def tp_b (w : bm_W) (t k : Nat) : Int := (Int32.ofInt (bm_gi w (t + 1) k) &&& Int32.ofInt 255).toInt
def tp_at (w : bm_W) (t : Nat) (k : Int) : Int := if 0 ≤ k ∧ k < bm_gi w t 1 then tp_b w t k.toNat else -1
theorem sp_tlength {d t : Nat} {w : bm_W} {Φ : bm_Rt → bm_W → Prop} (h : sh_Tp t w) : bm_Call bm_pg (d + 1) y_X8_length [bm_r (some t)] w Φ ↔ Φ (.inl (some (bm_i (bm_gi w t 1)))) w := by
  refine bm_ans (fun Ψ q => vc_X8_length ?_)
  simp only [bm_c0_v, bm_c1_v, bm_c2_v, bm_c3_v, bm_c4_v, bm_c5_v, bm_u_some, decide_eq_true_eq, true_and, and_true, and_self, Bool.not_eq_true, Bool.not_eq_true', decide_eq_false_iff_not, if_true, if_false, ite_true, ite_false, eq_self, h.1, h.2.1, h.2.2.1, h.2.2.2, q]
theorem sp_troom {d t : Nat} {w : bm_W} {Φ : bm_Rt → bm_W → Prop} (h : sh_Tp t w) : bm_Call bm_pg (d + 1) y_X8_room [bm_r (some t)] w Φ ↔ Φ (.inl (some (bm_i (bm_w (1500 - bm_gi w t 1))))) w := by
  refine bm_ans (fun Ψ q => vc_X8_room ?_)
  simp only [bm_c0_v, bm_c1_v, bm_c2_v, bm_c3_v, bm_c4_v, bm_c5_v, bm_u_some, decide_eq_true_eq, true_and, and_true, and_self, Bool.not_eq_true, Bool.not_eq_true', decide_eq_false_iff_not, if_true, if_false, ite_true, ite_false, eq_self, h.1, h.2.1, h.2.2.1, h.2.2.2, q]
theorem sp_tcut {d t : Nat} {k : Int} {w : bm_W} {Φ : bm_Rt → bm_W → Prop} (h : sh_Tp t w) : bm_Call bm_pg (d + 1) y_X8_cutTo [bm_r (some t), bm_i k] w Φ ↔ Φ (.inl none) (bm_si w t 1 k) := by
  refine bm_ans (fun Ψ q => vc_X8_cutTo ?_)
  simp only [bm_c0_v, bm_c1_v, bm_c2_v, bm_c3_v, bm_c4_v, bm_c5_v, bm_u_some, decide_eq_true_eq, true_and, and_true, and_self, Bool.not_eq_true, Bool.not_eq_true', decide_eq_false_iff_not, if_true, if_false, ite_true, ite_false, eq_self, h.1, h.2.1, h.2.2.1, h.2.2.2, q]
theorem sp_byteAt {d t : Nat} {k : Int} {w : bm_W} {Φ : bm_Rt → bm_W → Prop} (h : sh_Tp t w) (hL : bm_gi w t 1 ≤ 1500) : bm_Call bm_pg (d + 1) y_X8_byteAt [bm_r (some t), bm_i k] w Φ ↔ Φ (.inl (some (bm_i (tp_at w t k)))) w := by
  refine bm_ans (fun Ψ q => vc_X8_byteAt ?_)
  unfold tp_at at q
  simp only [bm_c0_v, bm_c1_v, bm_c2_v, bm_c3_v, bm_c4_v, bm_c5_v, bm_u_some, decide_eq_true_eq, true_and, and_true, and_self, Bool.not_eq_true, Bool.not_eq_true', decide_eq_false_iff_not, if_true, if_false, ite_true, ite_false, eq_self, h.1, h.2.1, h.2.2.1, h.2.2.2, bm_in]
  grind [tp_b]
