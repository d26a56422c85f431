/-! ===== the machine of the class: the instructions of a function, one by one ===== -/
/-- whether the instruction at c is the changed one -/
abbrev rn_ch (w : bm_W) (f : Nat) (chg : Int) (c : Nat) : Int := if ¬ chg = -1 ∧ bm_gi w (f + 7) c = chg then 1 else 0
theorem rn_step {d m p f c : Nat} {num base chg steps : Int} {w : bm_W} {Φ : bm_Rt → bm_W → Prop} (h : sh_Mc m p w) (hf : sh_Fn f w) (h5 : bm_gi w m 5 = 0) (hs0 : 0 ≤ steps) (hs : steps ≤ c) (hc : (c : Int) < bm_gi w f 7) (hL : bm_gi w f 7 ≤ 100)
    (q : bk_X2_run_79 (d + 1) Φ m num base chg f (c : Int) steps (bm_gi w (f + 5) c) (bm_gi w (f + 6) c) (rn_ch w f chg c) w) : bk_X2_run_16 (d + 1) Φ m num base chg f (c : Int) steps w := by
  refine vb_X2_run_16 ?_
  have e : ((c : Int) < 100) := by omega
  simp only [bm_c0_v, bm_c1_v, bm_c2_v, bm_c3_v, bm_c4_v, bm_c5_v, bm_u_some, decide_eq_true_eq, true_and, and_true, and_self, Bool.not_eq_true, Bool.not_eq_true', decide_eq_false_iff_not, if_true, if_false, ite_true, ite_false, eq_self, h.1, h.2.1, h.2.2.1, h.2.2.2.1, h.2.2.2.2.1, h.2.2.2.2.2.1, h.2.2.2.2.2.2.1, h.2.2.2.2.2.2.2.1, h.2.2.2.2.2.2.2.2.1, h.2.2.2.2.2.2.2.2.2.1, h.2.2.2.2.2.2.2.2.2.2, hf.1, h5, sp_opAt hf, sp_opdAt hf, sp_plAt hf, Int.toNat_natCast, e, Int.natCast_nonneg, and_self]
  rw [if_neg (by omega), if_neg (by omega)]
  unfold rn_ch at q
  grind
section RN
variable {d m p f c n : Nat} {num base chg steps : Int} {w : bm_W} {Φ : bm_Rt → bm_W → Prop}
theorem rn_c1 (hs : (c : Int) < 100) : bm_w ((c : Int) + 1) = ((c + 1 : Nat) : Int) := q_wI ⟨by omega, by omega⟩
theorem rn_number (h : sh_Mc m p w) (hf : sh_Fn f w) (h5 : bm_gi w m 5 = 0) (hs0 : 0 ≤ steps) (hs : steps ≤ c) (hc : (c : Int) < bm_gi w f 7) (hL : bm_gi w f 7 ≤ 100) (ht : bm_gi w m 4 = (n : Int)) (hn : n < 203) (ho : bm_gi w (f + 5) c = 2) (hv : 0 ≤ bm_gi w (f + 6) c ∧ bm_gi w (f + 6) c ≤ 9999)
    (q : bk_X2_run_16 (d + 1) Φ m num base chg f ((c + 1 : Nat) : Int) (steps + 1) (mc_put w m n (bm_gi w (f + 6) c + rn_ch w f chg c))) : bk_X2_run_16 (d + 1) Φ m num base chg f (c : Int) steps w := by
  refine rn_step h hf h5 hs0 hs hc hL (vb_X2_run_79 ?_)
  rw [if_pos ho]
  have hs' : (c : Int) < 100 := by omega
  have e2 : bm_w (steps + 1) = steps + 1 := q_wI ⟨by omega, by omega⟩
  simp only [bm_c0_v, bm_c1_v, bm_c2_v, bm_c3_v, bm_c4_v, bm_c5_v, bm_u_some, decide_eq_true_eq, true_and, and_true, and_self, Bool.not_eq_true, Bool.not_eq_true', decide_eq_false_iff_not, if_true, if_false, ite_true, ite_false, eq_self, h.1, sp_push (d := d) h ht hn, rn_c1 hs', e2, q_wI (x := bm_gi w (f + 6) c + 1) ⟨by omega, by omega⟩]
  have hch : rn_ch w f chg c = 0 ∨ rn_ch w f chg c = 1 := by unfold rn_ch; split <;> simp
  unfold mc_put at q
  generalize rn_ch w f chg c = ch at hch q ⊢
  rcases hch with rfl | rfl
  · rw [Int.add_zero] at q
    rw [if_pos rfl]
    exact q
  · rw [if_neg (by decide)]
    exact q
theorem rn_input {i b : Nat} (h : sh_Mc m p w) (hf : sh_Fn f w) (h5 : bm_gi w m 5 = 0) (hs0 : 0 ≤ steps) (hs : steps ≤ c) (hc : (c : Int) < bm_gi w f 7) (hL : bm_gi w f 7 ≤ 100) (ht : bm_gi w m 4 = (n : Int)) (hn : n < 203) (ho : bm_gi w (f + 5) c = 34) (hv : bm_gi w (f + 6) c = (i : Int)) (hb : base = (b : Int)) (hi : b + i < 203)
    (q : bk_X2_run_16 (d + 1) Φ m num base chg f ((c + 1 : Nat) : Int) (steps + 1) (mc_put w m n (bm_gl w (m + 1) (b + i)))) : bk_X2_run_16 (d + 1) Φ m num base chg f (c : Int) steps w := by
  refine rn_step h hf h5 hs0 hs hc hL (vb_X2_run_79 ?_)
  rw [ho]
  subst hb
  have hs' : (c : Int) < 100 := by omega
  have e2 : bm_w (steps + 1) = steps + 1 := q_wI ⟨by omega, by omega⟩
  have e3 : bm_w ((b : Int) + (i : Int)) = ((b + i : Nat) : Int) := q_wI ⟨by omega, by omega⟩
  simp only [Int.reduceEq, if_true, if_false, reduceIte, bm_c0_v, bm_c1_v, bm_c2_v, bm_c3_v, bm_c4_v, bm_c5_v, bm_u_some, decide_eq_true_eq, true_and, and_true, and_self, Bool.not_eq_true, Bool.not_eq_true', decide_eq_false_iff_not, if_true, if_false, ite_true, ite_false, eq_self, h.1, hv, e3, sp_mvalueAt (d := d) h hi, sp_push (d := d) h ht hn, rn_c1 hs', e2]
  exact q
theorem rn_jump {j : Nat} (h : sh_Mc m p w) (hf : sh_Fn f w) (h5 : bm_gi w m 5 = 0) (hs0 : 0 ≤ steps) (hs : steps ≤ c) (hc : (c : Int) < bm_gi w f 7) (hL : bm_gi w f 7 ≤ 100) (ho : bm_gi w (f + 5) c = 38) (hv : bm_gi w (f + 6) c = (j : Int))
    (q : bk_X2_run_16 (d + 1) Φ m num base chg f (j : Int) (steps + 1) w) : bk_X2_run_16 (d + 1) Φ m num base chg f (c : Int) steps w := by
  refine rn_step h hf h5 hs0 hs hc hL (vb_X2_run_79 ?_)
  rw [ho]
  have e2 : bm_w (steps + 1) = steps + 1 := q_wI ⟨by omega, by omega⟩
  simp only [Int.reduceEq, if_true, if_false, reduceIte, hv, e2]
  exact q
theorem rn_if (h : sh_Mc m p w) (hf : sh_Fn f w) (h5 : bm_gi w m 5 = 0) (hs0 : 0 ≤ steps) (hs : steps ≤ c) (hc : (c : Int) < bm_gi w f 7) (hL : bm_gi w f 7 ≤ 100) (ht : bm_gi w m 4 = (n : Int) + 1) (hn : n < 203) (ho : bm_gi w (f + 5) c = 6)
    (q : if (bm_gl w (m + 1) n = 0) = (rn_ch w f chg c = 0) then bk_X2_run_16 (d + 2) Φ m num base chg f ((c + 1 : Nat) : Int) (steps + 1) (mc_cnt (bm_si w m 4 (n : Int)) m (bm_gi w (f + 6) c) 0) else bk_X2_run_16 (d + 2) Φ m num base chg f ((c + 2 : Nat) : Int) (steps + 1) (mc_cnt (bm_si w m 4 (n : Int)) m (bm_gi w (f + 6) c) 1)) : bk_X2_run_16 (d + 2) Φ m num base chg f (c : Int) steps w := by
  refine rn_step h hf h5 hs0 hs hc hL (vb_X2_run_79 ?_)
  rw [ho]
  have hs' : (c : Int) < 100 := by omega
  have e2 : bm_w (steps + 1) = steps + 1 := q_wI ⟨by omega, by omega⟩
  have e3 : bm_w (((c + 1 : Nat) : Int) + 0) = ((c + 1 : Nat) : Int) := q_wI ⟨by omega, by omega⟩
  have e4 : bm_w (((c + 1 : Nat) : Int) + 1) = ((c + 2 : Nat) : Int) := q_wI ⟨by omega, by omega⟩
  have hch : rn_ch w f chg c = 0 ∨ rn_ch w f chg c = 1 := by unfold rn_ch; split <;> simp
  simp only [Int.reduceEq, if_true, if_false, reduceIte, bm_c0_v, bm_c1_v, bm_c2_v, bm_c3_v, bm_c4_v, bm_c5_v, bm_u_some, decide_eq_true_eq, true_and, and_true, and_self, Bool.not_eq_true, Bool.not_eq_true', decide_eq_false_iff_not, if_true, if_false, ite_true, ite_false, eq_self, h.1, sp_takesThen (d := d) h ht hn hch, rn_c1 hs', e2, e3, e4]
  split at q
  · rename_i c1
    simp only [c1, if_true] at q ⊢
    exact q
  · rename_i c1
    simp only [c1, if_false] at q ⊢
    exact q
theorem rn_and {j : Nat} (h : sh_Mc m p w) (hf : sh_Fn f w) (h5 : bm_gi w m 5 = 0) (hs0 : 0 ≤ steps) (hs : steps ≤ c) (hc : (c : Int) < bm_gi w f 7) (hL : bm_gi w f 7 ≤ 100) (ht : bm_gi w m 4 = (n : Int) + 1) (hn : n < 203) (ho : bm_gi w (f + 5) c = 9 ∨ bm_gi w (f + 5) c = 10) (hv : bm_gi w (f + 6) c = (j : Int))
    (q : if (bm_gl w (m + 1) n = 0) = ((bm_gi w (f + 5) c = 9) = (rn_ch w f chg c = 0)) then bk_X2_run_16 (d + 2) Φ m num base chg f (j : Int) (steps + 1) (mc_put w m n (if bm_gl w (m + 1) n = 0 then 0 else 1)) else bk_X2_run_16 (d + 2) Φ m num base chg f ((c + 1 : Nat) : Int) (steps + 1) (bm_si w m 4 (n : Int))) : bk_X2_run_16 (d + 2) Φ m num base chg f (c : Int) steps w := by
  refine rn_step h hf h5 hs0 hs hc hL (vb_X2_run_79 ?_)
  have hs' : (c : Int) < 100 := by omega
  have e2 : bm_w (steps + 1) = steps + 1 := q_wI ⟨by omega, by omega⟩
  have hch : rn_ch w f chg c = 0 ∨ rn_ch w f chg c = 1 := by unfold rn_ch; split <;> simp
  unfold mc_put at q
  generalize rn_ch w f chg c = ch at hch q ⊢
  rcases ho with ho | ho <;> rw [ho] at q ⊢ <;> rcases hch with rfl | rfl
  all_goals simp only [Int.reduceEq, if_true, if_false, reduceIte, bm_c0_v, bm_c1_v, bm_c2_v, bm_c3_v, bm_c4_v, bm_c5_v, bm_u_some, decide_eq_true_eq, true_and, and_true, and_self, Bool.not_eq_true, Bool.not_eq_true', decide_eq_false_iff_not, if_true, if_false, ite_true, ite_false, eq_self, h.1, sp_isDecided (d := d) (o := 0) h ht hn (Or.inl rfl), sp_isDecided (d := d) (o := 1) h ht hn (Or.inr rfl), rn_c1 hs', e2, hv]
  all_goals grind
theorem rn_un (h : sh_Mc m p w) (hf : sh_Fn f w) (h5 : bm_gi w m 5 = 0) (hs0 : 0 ≤ steps) (hs : steps ≤ c) (hc : (c : Int) < bm_gi w f 7) (hL : bm_gi w f 7 ≤ 100) (ht : bm_gi w m 4 = (n : Int) + 1) (hn : n < 203) (ho : bm_gi w (f + 5) c = 36 ∨ bm_gi w (f + 5) c = 11 ∨ bm_gi w (f + 5) c = 37) (hp : bm_gi w (f + 7) c = -1)
    (q : bk_X2_run_16 (d + 2) Φ m num base chg f ((c + 1 : Nat) : Int) (steps + 1) (mc_put w m n (t_un (bm_gi w (f + 5) c) (bm_gl w (m + 1) n)))) : bk_X2_run_16 (d + 2) Φ m num base chg f (c : Int) steps w := by
  refine rn_step h hf h5 hs0 hs hc hL (vb_X2_run_79 ?_)
  have hs' : (c : Int) < 100 := by omega
  have e2 : bm_w (steps + 1) = steps + 1 := q_wI ⟨by omega, by omega⟩
  have e3 : rn_ch w f chg c = 0 := if_neg (by rw [hp]; omega)
  rw [e3]
  rcases ho with ho | ho | ho <;> rw [ho] at q ⊢
  · simp only [Int.reduceEq, if_true, if_false, reduceIte, bm_c0_v, bm_c1_v, bm_c2_v, bm_c3_v, bm_c4_v, bm_c5_v, bm_u_some, decide_eq_true_eq, true_and, and_true, and_self, Bool.not_eq_true, Bool.not_eq_true', decide_eq_false_iff_not, if_true, if_false, ite_true, ite_false, eq_self, h.1, sp_apply1 (d := d) (op := 36) h ht hn (by decide), rn_c1 hs', e2]
    exact q
  · simp only [Int.reduceEq, if_true, if_false, reduceIte, bm_c0_v, bm_c1_v, bm_c2_v, bm_c3_v, bm_c4_v, bm_c5_v, bm_u_some, decide_eq_true_eq, true_and, and_true, and_self, Bool.not_eq_true, Bool.not_eq_true', decide_eq_false_iff_not, if_true, if_false, ite_true, ite_false, eq_self, h.1, sp_apply1 (d := d) (op := 11) h ht hn (by decide), rn_c1 hs', e2]
    exact q
  · simp only [Int.reduceEq, if_true, if_false, reduceIte, bm_c0_v, bm_c1_v, bm_c2_v, bm_c3_v, bm_c4_v, bm_c5_v, bm_u_some, decide_eq_true_eq, true_and, and_true, and_self, Bool.not_eq_true, Bool.not_eq_true', decide_eq_false_iff_not, if_true, if_false, ite_true, ite_false, eq_self, h.1, sp_apply1 (d := d) (op := 37) h ht hn (by decide), rn_c1 hs', e2]
    exact q
/-- the operator that stands at c, with the change -/
abbrev rn_op (w : bm_W) (f : Nat) (chg : Int) (c : Nat) : Int := if rn_ch w f chg c = 0 then bm_gi w (f + 5) c else t_chg (bm_gi w (f + 5) c)
theorem t_chg_rng {op : Int} (h : 22 ≤ op ∧ op ≤ 32) : 22 ≤ t_chg op ∧ t_chg op ≤ 32 := by unfold t_chg; grind (splits := 20)
theorem rn_bin (h : sh_Mc m p w) (hf : sh_Fn f w) (h5 : bm_gi w m 5 = 0) (hs0 : 0 ≤ steps) (hs : steps ≤ c) (hc : (c : Int) < bm_gi w f 7) (hL : bm_gi w f 7 ≤ 100) (ht : bm_gi w m 4 = (n : Int) + 1 + 1) (hn : n + 1 < 203) (ho : 22 ≤ bm_gi w (f + 5) c ∧ bm_gi w (f + 5) c ≤ 32)
    (q : match t_bin (rn_op w f chg c) (bm_gl w (m + 1) n) (bm_gl w (m + 1) (n + 1)) with
      | some v => bk_X2_run_16 (d + 2) Φ m num base chg f ((c + 1 : Nat) : Int) (steps + 1) (mc_put w m n v)
      | none => bk_X2_run_16 (d + 2) Φ m num base chg f ((c + 1 : Nat) : Int) (steps + 1) (bm_si (bm_si w m 4 ((n : Int) + 1)) m 5 1)) : bk_X2_run_16 (d + 2) Φ m num base chg f (c : Int) steps w := by
  refine rn_step h hf h5 hs0 hs hc hL (vb_X2_run_79 ?_)
  have hs' : (c : Int) < 100 := by omega
  have e2 : bm_w (steps + 1) = steps + 1 := q_wI ⟨by omega, by omega⟩
  have hch : rn_ch w f chg c = 0 ∨ rn_ch w f chg c = 1 := by unfold rn_ch; split <;> simp
  unfold rn_op at q
  rw [if_neg (by omega), if_neg (by omega), if_neg (by omega), if_neg (by omega), if_neg (by omega), if_neg (by omega), if_neg (by omega)]
  generalize rn_ch w f chg c = ch at hch q ⊢
  rcases hch with rfl | rfl
  · rw [if_pos rfl] at q
    simp only [bm_c0_v, bm_c1_v, bm_c2_v, bm_c3_v, bm_c4_v, bm_c5_v, bm_u_some, decide_eq_true_eq, true_and, and_true, and_self, Bool.not_eq_true, Bool.not_eq_true', decide_eq_false_iff_not, if_true, if_false, ite_true, ite_false, eq_self, h.1, sp_apply2 (d := d) h ht hn ho, rn_c1 hs', e2]
    split
    · rename_i v hb; rw [hb] at q; exact q
    · rename_i hb; rw [hb] at q; exact q
  · rw [if_neg (by decide)] at q
    simp only [bm_c0_v, bm_c1_v, bm_c2_v, bm_c3_v, bm_c4_v, bm_c5_v, bm_u_some, decide_eq_true_eq, true_and, and_true, and_self, Bool.not_eq_true, Bool.not_eq_true', decide_eq_false_iff_not, if_true, if_false, ite_true, ite_false, eq_self, h.1, sp_changedOp, sp_apply2 (d := d) h ht hn (t_chg_rng ho), rn_c1 hs', e2, Int.reduceEq, if_false]
    split
    · rename_i v hb; rw [hb] at q; exact q
    · rename_i hb; rw [hb] at q; exact q
/-- a fault ends a run -/
theorem rn_fault (hm : bm_kt w m = 2) (hf : bm_kt w f = 1) (h5 : bm_gi w m 5 = 1) {at' : Int} (q : Φ (.inl none) w) : bk_X2_run_16 d Φ m num base chg f at' steps w := by
  refine vb_X2_run_16 ?_
  simp only [bm_c0_v, bm_c1_v, bm_c2_v, bm_c3_v, bm_c4_v, bm_c5_v, bm_u_some, decide_eq_true_eq, true_and, and_true, and_self, Bool.not_eq_true, Bool.not_eq_true', decide_eq_false_iff_not, if_true, if_false, ite_true, ite_false, eq_self, hm, hf, h5]
  grind
/-- so does the end of the code -/
theorem rn_end (hf : bm_kt w f = 1) {at' : Int} (h : bm_gi w f 7 ≤ at') (q : Φ (.inl none) w) : bk_X2_run_16 d Φ m num base chg f at' steps w := by
  refine vb_X2_run_16 ?_
  simp only [bm_c0_v, bm_c1_v, bm_c2_v, bm_c3_v, bm_c4_v, bm_c5_v, bm_u_some, decide_eq_true_eq, true_and, and_true, and_self, Bool.not_eq_true, Bool.not_eq_true', decide_eq_false_iff_not, if_true, if_false, ite_true, ite_false, eq_self, hf]
  grind
end RN
