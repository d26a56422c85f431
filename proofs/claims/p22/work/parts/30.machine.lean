/-! ===== the machine of the class ===== -/
def sh_Mc (m p : Nat) (w : bm_W) : Prop := bm_kt w m = 2 ∧ bm_gr w m 0 = some p ∧ bm_gr w m 1 = some (m + 1) ∧ bm_gr w m 2 = some (m + 2) ∧ bm_gr w m 3 = some (m + 3) ∧ bm_kt w (m + 1) = 22 ∧ bm_kn w (m + 1) = 203 ∧ bm_kt w (m + 2) = 21 ∧ bm_kn w (m + 2) = 54 ∧ bm_kt w (m + 3) = 21 ∧ bm_kn w (m + 3) = 54
theorem sh_Mc.fr {A : Nat → Prop} {m p : Nat} {w w' : bm_W} (h : q_fr A w w') (hT : sh_Mc m p w) : sh_Mc m p w' := by
  unfold sh_Mc
  rw [h.kt, h.kn, h.gr]
  exact hT
theorem sp_push {d m p n : Nat} {v : Int} {w : bm_W} {Φ : bm_Rt → bm_W → Prop} (h : sh_Mc m p w) (ht : bm_gi w m 4 = (n : Int)) (hn : n < 203) : bm_Call bm_pg (d + 1) y_X2_push [bm_r (some m), bm_l v] w Φ ↔ Φ (.inl none) (bm_si (bm_sq w (m + 1) n v) m 4 ((n : Int) + 1)) := by
  refine bm_ans (fun Ψ q => vc_X2_push ?_)
  simp only [bm_c0_v, bm_c1_v, bm_c2_v, bm_c3_v, bm_c4_v, bm_c5_v, bm_u_some, decide_eq_true_eq, true_and, and_true, and_self, Bool.not_eq_true, Bool.not_eq_true', decide_eq_false_iff_not, if_true, if_false, ite_true, ite_false, eq_self, h.1, h.2.1, h.2.2.1, h.2.2.2.1, h.2.2.2.2.1, h.2.2.2.2.2.1, h.2.2.2.2.2.2.1, h.2.2.2.2.2.2.2.1, h.2.2.2.2.2.2.2.2.1, h.2.2.2.2.2.2.2.2.2.1, h.2.2.2.2.2.2.2.2.2.2, bm_in, bm_si_kt, bm_si_kn, bm_si_sz, bm_si_sl, bm_si_gi, bm_si_gl, bm_si_gr, bm_sq_kt, bm_sq_kn, bm_sq_sz, bm_sq_sl, bm_sq_gi, bm_sq_gl, bm_sq_gr, bm_sr_kt, bm_sr_kn, bm_sr_sz, bm_sr_sl, bm_sr_gi, bm_sr_gl, bm_sr_gr, ht, Int.toNat_natCast, q_wI (x := (n : Int) + 1) ⟨by omega, by omega⟩]
  rw [if_neg (by omega)]
  refine ⟨by decide, ?_⟩
  rw [if_neg (by omega)]
  exact ⟨by omega, q⟩
theorem sp_pop {d m p n : Nat} {w : bm_W} {Φ : bm_Rt → bm_W → Prop} (h : sh_Mc m p w) (ht : bm_gi w m 4 = (n : Int) + 1) (hn : n < 203) : bm_Call bm_pg (d + 1) y_X2_pop [bm_r (some m)] w Φ ↔ Φ (.inl (some (bm_l (bm_gl w (m + 1) n)))) (bm_si w m 4 (n : Int)) := by
  refine bm_ans (fun Ψ q => vc_X2_pop ?_)
  have e : bm_w ((n : Int) + 1 - 1) = (n : Int) := by rw [show (n : Int) + 1 - 1 = n by omega]; exact q_wI ⟨by omega, by omega⟩
  simp only [bm_c0_v, bm_c1_v, bm_c2_v, bm_c3_v, bm_c4_v, bm_c5_v, bm_u_some, decide_eq_true_eq, true_and, and_true, and_self, Bool.not_eq_true, Bool.not_eq_true', decide_eq_false_iff_not, if_true, if_false, ite_true, ite_false, eq_self, h.1, h.2.1, h.2.2.1, h.2.2.2.1, h.2.2.2.2.1, h.2.2.2.2.2.1, h.2.2.2.2.2.2.1, h.2.2.2.2.2.2.2.1, h.2.2.2.2.2.2.2.2.1, h.2.2.2.2.2.2.2.2.2.1, h.2.2.2.2.2.2.2.2.2.2, bm_in, bm_si_kt, bm_si_kn, bm_si_sz, bm_si_sl, bm_si_gi, bm_si_gl, bm_si_gr, bm_sq_kt, bm_sq_kn, bm_sq_sz, bm_sq_sl, bm_sq_gi, bm_sq_gl, bm_sq_gr, bm_sr_kt, bm_sr_kn, bm_sr_sz, bm_sr_sl, bm_sr_gi, bm_sr_gl, bm_sr_gr, ht, e, Int.toNat_natCast]
  rw [if_neg (by omega)]
  refine ⟨by decide, ?_⟩
  rw [if_pos (by omega)]
  exact ⟨by omega, q⟩
theorem sp_mvalueAt {d m p n : Nat} {w : bm_W} {Φ : bm_Rt → bm_W → Prop} (h : sh_Mc m p w) (hn : n < 203) : bm_Call bm_pg (d + 1) y_X2_valueAt [bm_r (some m), bm_i (n : Int)] w Φ ↔ Φ (.inl (some (bm_l (bm_gl w (m + 1) n)))) w := by
  refine bm_ans (fun Ψ q => vc_X2_valueAt ?_)
  simp only [bm_c0_v, bm_c1_v, bm_c2_v, bm_c3_v, bm_c4_v, bm_c5_v, bm_u_some, decide_eq_true_eq, true_and, and_true, and_self, Bool.not_eq_true, Bool.not_eq_true', decide_eq_false_iff_not, if_true, if_false, ite_true, ite_false, eq_self, h.1, h.2.1, h.2.2.1, h.2.2.2.1, h.2.2.2.2.1, h.2.2.2.2.2.1, h.2.2.2.2.2.2.1, h.2.2.2.2.2.2.2.1, h.2.2.2.2.2.2.2.2.1, h.2.2.2.2.2.2.2.2.2.1, h.2.2.2.2.2.2.2.2.2.2, bm_in, Int.toNat_natCast]
  rw [if_neg (by omega)]
  refine ⟨by decide, ?_⟩
  rw [if_neg (by omega)]
  exact ⟨by omega, q⟩
theorem sp_hasFailed {d m p : Nat} {w : bm_W} {Φ : bm_Rt → bm_W → Prop} (h : sh_Mc m p w) (hf : bm_gi w m 5 = 0 ∨ bm_gi w m 5 = 1) : bm_Call bm_pg (d + 1) y_X2_hasFailed [bm_r (some m)] w Φ ↔ Φ (.inl (some (bm_i (bm_gi w m 5)))) w := by
  refine bm_ans (fun Ψ q => vc_X2_hasFailed ?_)
  exact ⟨h.1, hf, q⟩
theorem sp_stopCounting {d m p : Nat} {w : bm_W} {Φ : bm_Rt → bm_W → Prop} (h : sh_Mc m p w) : bm_Call bm_pg (d + 1) y_X2_stopCounting [bm_r (some m)] w Φ ↔ Φ (.inl none) (bm_si w m 6 0) := by
  refine bm_ans (fun Ψ q => vc_X2_stopCounting ?_)
  exact ⟨⟨h.1, Or.inl rfl⟩, q⟩
/-- one more branch is counted, where branches are counted -/
def mc_cnt (w : bm_W) (m : Nat) (i : Int) (b : Int) : bm_W := if bm_gi w m 6 ≠ 0 ∧ 0 ≤ i ∧ i < 54 then (if b = 0 then bm_si w (m + 3) i.toNat (bm_w (bm_gi w (m + 3) i.toNat + 1)) else bm_si w (m + 2) i.toNat (bm_w (bm_gi w (m + 2) i.toNat + 1))) else w
theorem sp_countBranch {d m p : Nat} {i b : Int} {w : bm_W} {Φ : bm_Rt → bm_W → Prop} (h : sh_Mc m p w) : bm_Call bm_pg (d + 1) y_X2_countBranch [bm_r (some m), bm_i i, bm_i b] w Φ ↔ Φ (.inl none) (mc_cnt w m i b) := by
  refine bm_ans (fun Ψ q => vc_X2_countBranch ?_)
  unfold mc_cnt at q
  simp only [bm_c0_v, bm_c1_v, bm_c2_v, bm_c3_v, bm_c4_v, bm_c5_v, bm_u_some, decide_eq_true_eq, true_and, and_true, and_self, Bool.not_eq_true, Bool.not_eq_true', decide_eq_false_iff_not, if_true, if_false, ite_true, ite_false, eq_self, h.1, h.2.1, h.2.2.1, h.2.2.2.1, h.2.2.2.2.1, h.2.2.2.2.2.1, h.2.2.2.2.2.2.1, h.2.2.2.2.2.2.2.1, h.2.2.2.2.2.2.2.2.1, h.2.2.2.2.2.2.2.2.2.1, h.2.2.2.2.2.2.2.2.2.2, bm_in]
  grind (splits := 20)
theorem sp_branchCount {d m p : Nat} {i b : Int} {w : bm_W} {Φ : bm_Rt → bm_W → Prop} (h : sh_Mc m p w) : bm_Call bm_pg (d + 1) y_X2_branchCount [bm_r (some m), bm_i i, bm_i b] w Φ ↔ Φ (.inl (some (bm_i (if 0 ≤ i ∧ i < 54 then (if b = 0 then bm_gi w (m + 3) i.toNat else bm_gi w (m + 2) i.toNat) else 0)))) w := by
  refine bm_ans (fun Ψ q => vc_X2_branchCount ?_)
  simp only [bm_c0_v, bm_c1_v, bm_c2_v, bm_c3_v, bm_c4_v, bm_c5_v, bm_u_some, decide_eq_true_eq, true_and, and_true, and_self, Bool.not_eq_true, Bool.not_eq_true', decide_eq_false_iff_not, if_true, if_false, ite_true, ite_false, eq_self, h.1, h.2.1, h.2.2.1, h.2.2.2.1, h.2.2.2.2.1, h.2.2.2.2.2.1, h.2.2.2.2.2.2.1, h.2.2.2.2.2.2.2.1, h.2.2.2.2.2.2.2.2.1, h.2.2.2.2.2.2.2.2.2.1, h.2.2.2.2.2.2.2.2.2.2, bm_in]
  grind (splits := 20)
theorem mc_cnt_fr {w0 w : bm_W} {m : Nat} {i b : Int} {A : Nat → Prop} (h : q_fr A w0 w) (h1 : A (m + 2)) (h2 : A (m + 3)) : q_fr A w0 (mc_cnt w m i b) := by
  unfold mc_cnt
  split
  · split
    · exact h.si h2
    · exact h.si h1
  · exact h
theorem sp_takesThen {d m p n : Nat} {i ch : Int} {w : bm_W} {Φ : bm_Rt → bm_W → Prop} (h : sh_Mc m p w) (ht : bm_gi w m 4 = (n : Int) + 1) (hn : n < 203) (hc : ch = 0 ∨ ch = 1) : bm_Call bm_pg (d + 2) y_X2_takesThen [bm_r (some m), bm_i i, bm_i ch] w Φ ↔
    Φ (.inl (some (bm_i (if (bm_gl w (m + 1) n = 0) = (ch = 0) then 0 else 1)))) (mc_cnt (bm_si w m 4 (n : Int)) m i (if (bm_gl w (m + 1) n = 0) = (ch = 0) then 0 else 1)) := by
  refine bm_ans (fun Ψ q => vc_X2_takesThen ?_)
  have h' : sh_Mc m p (bm_si w m 4 (n : Int)) := h
  simp only [bm_c0_v, bm_c1_v, bm_c2_v, bm_c3_v, bm_c4_v, bm_c5_v, bm_u_some, decide_eq_true_eq, true_and, and_true, and_self, Bool.not_eq_true, Bool.not_eq_true', decide_eq_false_iff_not, if_true, if_false, ite_true, ite_false, eq_self, h.1, h.2.1, h.2.2.1, h.2.2.2.1, h.2.2.2.2.1, h.2.2.2.2.2.1, h.2.2.2.2.2.2.1, h.2.2.2.2.2.2.2.1, h.2.2.2.2.2.2.2.2.1, h.2.2.2.2.2.2.2.2.2.1, h.2.2.2.2.2.2.2.2.2.2, sp_pop h ht hn, sp_countBranch h', bm_si_kt, bm_si_kn, bm_si_sz, bm_si_sl, bm_si_gi, bm_si_gl, bm_si_gr, bm_sq_kt, bm_sq_kn, bm_sq_sz, bm_sq_sl, bm_sq_gi, bm_sq_gl, bm_sq_gr, bm_sr_kt, bm_sr_kn, bm_sr_sz, bm_sr_sl, bm_sr_gi, bm_sr_gl, bm_sr_gr]
  grind
theorem sp_isDecided {d m p n : Nat} {o : Int} {w : bm_W} {Φ : bm_Rt → bm_W → Prop} (h : sh_Mc m p w) (ht : bm_gi w m 4 = (n : Int) + 1) (hn : n < 203) (hc : o = 0 ∨ o = 1) : bm_Call bm_pg (d + 2) y_X2_isDecided [bm_r (some m), bm_i o] w Φ ↔
    (if (bm_gl w (m + 1) n = 0) = (o = 0) then Φ (.inl (some (bm_i 1))) (bm_si (bm_sq w (m + 1) n (if bm_gl w (m + 1) n = 0 then 0 else 1)) m 4 ((n : Int) + 1)) else Φ (.inl (some (bm_i 0))) (bm_si w m 4 (n : Int))) := by
  have h' : sh_Mc m p (bm_si w m 4 (n : Int)) := h
  have e : ∀ v : Int, bm_si (bm_sq (bm_si w m 4 (n : Int)) (m + 1) n v) m 4 ((n : Int) + 1) = bm_si (bm_sq w (m + 1) n v) m 4 ((n : Int) + 1) := fun v => by rw [q_sq_si, q_si_si]
  by_cases c : (bm_gl w (m + 1) n = 0) = (o = 0)
  · rw [if_pos c]
    refine bm_ans (fun Ψ q => vc_X2_isDecided ?_)
    simp only [bm_c0_v, bm_c1_v, bm_c2_v, bm_c3_v, bm_c4_v, bm_c5_v, bm_u_some, decide_eq_true_eq, true_and, and_true, and_self, Bool.not_eq_true, Bool.not_eq_true', decide_eq_false_iff_not, if_true, if_false, ite_true, ite_false, eq_self, h.1, h.2.1, h.2.2.1, h.2.2.2.1, h.2.2.2.2.1, h.2.2.2.2.2.1, h.2.2.2.2.2.2.1, h.2.2.2.2.2.2.2.1, h.2.2.2.2.2.2.2.2.1, h.2.2.2.2.2.2.2.2.2.1, h.2.2.2.2.2.2.2.2.2.2, sp_pop h ht hn, sp_push (d := d) h' q_gi_eq hn, bm_si_kt, bm_si_kn, bm_si_sz, bm_si_sl, bm_si_gi, bm_si_gl, bm_si_gr, bm_sq_kt, bm_sq_kn, bm_sq_sz, bm_sq_sl, bm_sq_gi, bm_sq_gl, bm_sq_gr, bm_sr_kt, bm_sr_kn, bm_sr_sz, bm_sr_sl, bm_sr_gi, bm_sr_gl, bm_sr_gr, e]
    grind
  · rw [if_neg c]
    refine bm_ans (fun Ψ q => vc_X2_isDecided ?_)
    simp only [bm_c0_v, bm_c1_v, bm_c2_v, bm_c3_v, bm_c4_v, bm_c5_v, bm_u_some, decide_eq_true_eq, true_and, and_true, and_self, Bool.not_eq_true, Bool.not_eq_true', decide_eq_false_iff_not, if_true, if_false, ite_true, ite_false, eq_self, h.1, h.2.1, h.2.2.1, h.2.2.2.1, h.2.2.2.2.1, h.2.2.2.2.2.1, h.2.2.2.2.2.2.1, h.2.2.2.2.2.2.2.1, h.2.2.2.2.2.2.2.2.1, h.2.2.2.2.2.2.2.2.2.1, h.2.2.2.2.2.2.2.2.2.2, sp_pop h ht hn, sp_push (d := d) h' q_gi_eq hn, bm_si_kt, bm_si_kn, bm_si_sz, bm_si_sl, bm_si_gi, bm_si_gl, bm_si_gr, bm_sq_kt, bm_sq_kn, bm_sq_sz, bm_sq_sl, bm_sq_gi, bm_sq_gl, bm_sq_gr, bm_sr_kt, bm_sr_kn, bm_sr_sz, bm_sr_sl, bm_sr_gi, bm_sr_gl, bm_sr_gr, e]
    grind
def t_chg (op : Int) : Int := if op = 22 then 23 else if op = 23 then 22 else if op = 24 then 25 else if op = 25 then 24 else if op = 26 then 27 else if op = 27 then 26 else if op = 28 then 29 else if op = 29 then 28 else if op = 30 then 31 else 30
theorem sp_changedOp {d : Nat} {op : Int} {w : bm_W} {Φ : bm_Rt → bm_W → Prop} : bm_Call bm_pg (d + 1) y_X2_changedOperator [bm_i op] w Φ ↔ Φ (.inl (some (bm_i (t_chg op)))) w := by
  refine bm_ans (fun Ψ q => vc_X2_changedOperator ?_)
  unfold t_chg at q
  grind (splits := 30)
