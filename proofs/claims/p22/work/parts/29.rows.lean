/-! ===== rows, tables and programs of the class ===== -/
def sh_Rw (r : Nat) (w : bm_W) : Prop := bm_kt w r = 5 ∧ bm_gr w r 0 = some (r + 1) ∧ sh_Rg (r + 1) w
theorem sh_Rw.fr {A : Nat → Prop} {r : Nat} {w w' : bm_W} (h : q_fr A w w') (hT : sh_Rw r w) : sh_Rw r w' := by
  refine ⟨?_, ?_, hT.2.2.fr h⟩
  · rw [h.kt]; exact hT.1
  · rw [h.gr]; exact hT.2.1
def sh_Tb (t : Nat) (w : bm_W) : Prop := bm_kt w t = 7 ∧ bm_gr w t 0 = some (t + 1) ∧ bm_gr w t 1 = some (t + 2) ∧ bm_gr w t 2 = some (t + 6) ∧ bm_kt w (t + 1) = 25 ∧ bm_kn w (t + 1) = 12 ∧ bm_kt w (t + 6) = 23 ∧ bm_kn w (t + 6) = 100 ∧ sh_Rw (t + 2) w ∧ ∀ i r, i < 12 → bm_gr w (t + 1) i = some r → sh_Rw r w
theorem sh_Tb.fr {A : Nat → Prop} {t : Nat} {w w' : bm_W} (h : q_fr A w w') (hT : sh_Tb t w) : sh_Tb t w' := by
  unfold sh_Tb
  rw [h.kt, h.kn, h.gr]
  obtain ⟨h1, h2, h3, h4, h5, h6, h7, h8, h9, h10⟩ := hT
  exact ⟨h1, h2, h3, h4, h5, h6, h7, h8, h9.fr h, fun i r hi hr => (h10 i r hi hr).fr h⟩
def rw_clr (w : bm_W) (r : Nat) : bm_W := bm_si (bm_sq (bm_si (rg_clr w (r + 1)) r 1 14) r 2 0) r 4 0
theorem sp_wclear {d r : Nat} {w : bm_W} {Φ : bm_Rt → bm_W → Prop} (h : sh_Rw r w) : bm_Call bm_pg (d + 3) y_X5_clear [bm_r (some r)] w Φ ↔ Φ (.inl none) (rw_clr w r) := by
  refine bm_ans (fun Ψ q => vc_X5_clear ?_)
  have F : q_fr (fun a => r + 1 ≤ a) w (rg_clr w (r + 1)) := rg_clr_fr q_fr.rf (by omega) (by omega)
  simp only [bm_c0_v, bm_c1_v, bm_c2_v, bm_c3_v, bm_c4_v, bm_c5_v, bm_u_some, decide_eq_true_eq, true_and, and_true, and_self, Bool.not_eq_true, Bool.not_eq_true', decide_eq_false_iff_not, if_true, if_false, ite_true, ite_false, eq_self, h.1, h.2.1, h.2.2, bm_si_kt, bm_si_kn, bm_si_sz, bm_si_sl, bm_si_gi, bm_si_gl, bm_si_gr, bm_sq_kt, bm_sq_kn, bm_sq_sz, bm_sq_sl, bm_sq_gi, bm_sq_gl, bm_sq_gr, bm_sr_kt, bm_sr_kn, bm_sr_sz, bm_sr_sl, bm_sr_gi, bm_sr_gl, bm_sr_gr, sp_rclear h.2.2, F.kt, h.2.2.1]
  exact ⟨by decide, q⟩
/-- what an operator of comparison says -/
abbrev t_rel (op x y : Int) : Prop := if op = 22 then x = y else if op = 23 then ¬ x = y else if op = 24 then x < y else if op = 25 then x ≤ y else if op = 26 then y < x else y ≤ x
theorem sp_isRelated {d : Nat} {op x y : Int} {w : bm_W} {Φ : bm_Rt → bm_W → Prop} : bm_Call bm_pg (d + 1) y_X11_isRelated [bm_i op, bm_l x, bm_l y] w Φ ↔ Φ (.inl (some (bm_i (if t_rel op x y then 1 else 0)))) w := by
  refine bm_ans (fun Ψ q => vc_X11_isRelated ?_)
  simp only [bm_c0_v, bm_c1_v, bm_c2_v, bm_c3_v, bm_c4_v, bm_c5_v, bm_u_some, decide_eq_true_eq, true_and, and_true, and_self, Bool.not_eq_true, Bool.not_eq_true', decide_eq_false_iff_not, if_true, if_false, ite_true, ite_false, eq_self]
  grind (splits := 30)
theorem sp_admits {d r : Nat} {f v : Int} {w : bm_W} {Φ : bm_Rt → bm_W → Prop} (h : sh_Rw r w) (hf : f = 0 ∨ f = 1) : bm_Call bm_pg (d + 2) y_X5_admits [bm_r (some r), bm_i f, bm_l v] w Φ ↔ Φ (.inl (some (bm_i (if bm_gi w r 1 = 15 then f else if f = 0 ∧ (bm_gi w r 1 = 14 ∨ t_rel (bm_gi w r 1) v (bm_gl w r 2)) then 1 else 0)))) w := by
  refine bm_ans (fun Ψ q => vc_X5_admits ?_)
  simp only [bm_c0_v, bm_c1_v, bm_c2_v, bm_c3_v, bm_c4_v, bm_c5_v, bm_u_some, decide_eq_true_eq, true_and, and_true, and_self, Bool.not_eq_true, Bool.not_eq_true', decide_eq_false_iff_not, if_true, if_false, ite_true, ite_false, eq_self, h.1, h.2.1, h.2.2, sp_isRelated]
  by_cases c : t_rel (bm_gi w r 1) v (bm_gl w r 2)
  · simp only [c, or_true] at q
    rw [if_pos c]
    grind
  · simp only [c, or_false] at q
    rw [if_neg c]
    grind
/-- the row of a number -/
def tb_row (w : bm_W) (t : Nat) (i : Int) : Nat := if 0 ≤ i ∧ i < 12 then (bm_gr w (t + 1) i.toNat).getD (t + 2) else t + 2
theorem sh_Tb.row {t : Nat} {w : bm_W} (h : sh_Tb t w) (i : Int) : sh_Rw (tb_row w t i) w := by
  unfold tb_row
  split
  · rename_i c
    cases e : bm_gr w (t + 1) i.toNat with
    | none => exact h.2.2.2.2.2.2.2.2.1
    | some r => exact h.2.2.2.2.2.2.2.2.2 i.toNat r (by omega) e
  · exact h.2.2.2.2.2.2.2.2.1
theorem sp_rowAt {d t : Nat} {i : Int} {w : bm_W} {Φ : bm_Rt → bm_W → Prop} (h : sh_Tb t w) : bm_Call bm_pg (d + 1) y_X7_rowAt [bm_r (some t), bm_i i] w Φ ↔ Φ (.inl (some (bm_r (some (tb_row w t i))))) w := by
  refine bm_ans (fun Ψ q => vc_X7_rowAt ?_)
  unfold tb_row at q
  simp only [bm_c0_v, bm_c1_v, bm_c2_v, bm_c3_v, bm_c4_v, bm_c5_v, bm_u_some, decide_eq_true_eq, true_and, and_true, and_self, Bool.not_eq_true, Bool.not_eq_true', decide_eq_false_iff_not, if_true, if_false, ite_true, ite_false, eq_self, h.1, h.2.1, h.2.2.1, h.2.2.2.1, h.2.2.2.2.1, h.2.2.2.2.2.1, h.2.2.2.2.2.2.1, h.2.2.2.2.2.2.2.1, h.2.2.2.2.2.2.2.2.1, h.2.2.2.2.2.2.2.2.2, bm_in, Option.isSome_none, Bool.false_eq_true]
  by_cases c : 0 ≤ i ∧ i < 12
  · rw [if_pos c] at q
    rw [if_neg (by omega)]
    refine ⟨by decide, ?_⟩
    rw [if_neg (by omega)]
    refine ⟨by omega, ?_⟩
    cases e : bm_gr w (t + 1) i.toNat with
    | none =>
      rw [e] at q
      exact q
    | some r =>
      rw [e] at q
      exact q
  · rw [if_neg c] at q
    by_cases c2 : i < 0
    · rw [if_pos c2]; exact q
    · rw [if_neg c2]
      refine ⟨by decide, ?_⟩
      rw [if_pos (by omega)]
      exact q
theorem sp_note {d t : Nat} {i b : Int} {w : bm_W} {Φ : bm_Rt → bm_W → Prop} (h : sh_Tb t w) (hb : b = 0 ∨ b = 1) : bm_Call bm_pg (d + 1) y_X7_note [bm_r (some t), bm_i i, bm_i b] w Φ ↔ Φ (.inl none) (if 0 ≤ i ∧ i < 100 then bm_si w (t + 6) i.toNat b else w) := by
  refine bm_ans (fun Ψ q => vc_X7_note ?_)
  simp only [bm_c0_v, bm_c1_v, bm_c2_v, bm_c3_v, bm_c4_v, bm_c5_v, bm_u_some, decide_eq_true_eq, true_and, and_true, and_self, Bool.not_eq_true, Bool.not_eq_true', decide_eq_false_iff_not, if_true, if_false, ite_true, ite_false, eq_self, h.1, h.2.1, h.2.2.1, h.2.2.2.1, h.2.2.2.2.1, h.2.2.2.2.2.1, h.2.2.2.2.2.2.1, h.2.2.2.2.2.2.2.1, h.2.2.2.2.2.2.2.2.1, h.2.2.2.2.2.2.2.2.2, bm_in]
  grind
abbrev tb_ho (w : bm_W) (t : Nat) (i : Int) : Prop := 0 ≤ i ∧ i < 100 ∧ bm_gi w (t + 6) i.toNat ≠ 0
theorem sp_isHo {d t : Nat} {i : Int} {w : bm_W} {Φ : bm_Rt → bm_W → Prop} (h : sh_Tb t w) : bm_Call bm_pg (d + 1) y_X7_isHolding [bm_r (some t), bm_i i] w Φ ↔ Φ (.inl (some (bm_i (if tb_ho w t i then 1 else 0)))) w := by
  refine bm_ans (fun Ψ q => vc_X7_isHolding ?_)
  simp only [bm_c0_v, bm_c1_v, bm_c2_v, bm_c3_v, bm_c4_v, bm_c5_v, bm_u_some, decide_eq_true_eq, true_and, and_true, and_self, Bool.not_eq_true, Bool.not_eq_true', decide_eq_false_iff_not, if_true, if_false, ite_true, ite_false, eq_self, h.1, h.2.1, h.2.2.1, h.2.2.2.1, h.2.2.2.2.1, h.2.2.2.2.2.1, h.2.2.2.2.2.2.1, h.2.2.2.2.2.2.2.1, h.2.2.2.2.2.2.2.2.1, h.2.2.2.2.2.2.2.2.2, bm_in]
  grind
theorem sp_tbclear {d t : Nat} {w : bm_W} {Φ : bm_Rt → bm_W → Prop} (h : sh_Tb t w) : bm_Call bm_pg (d + 1) y_X7_clear [bm_r (some t)] w Φ ↔ Φ (.inl none) (bm_si (bm_si (bm_si (bm_sq w t 3 0) t 4 0) t 5 0) t 6 0) := by
  refine bm_ans (fun Ψ q => vc_X7_clear ?_)
  simp only [bm_c0_v, bm_c1_v, bm_c2_v, bm_c3_v, bm_c4_v, bm_c5_v, bm_u_some, decide_eq_true_eq, true_and, and_true, and_self, Bool.not_eq_true, Bool.not_eq_true', decide_eq_false_iff_not, if_true, if_false, ite_true, ite_false, eq_self, h.1, h.2.1, h.2.2.1, h.2.2.2.1, h.2.2.2.2.1, h.2.2.2.2.2.1, h.2.2.2.2.2.2.1, h.2.2.2.2.2.2.2.1, h.2.2.2.2.2.2.2.2.1, h.2.2.2.2.2.2.2.2.2, bm_si_kt, bm_si_kn, bm_si_sz, bm_si_sl, bm_si_gi, bm_si_gl, bm_si_gr, bm_sq_kt, bm_sq_kn, bm_sq_sz, bm_sq_sl, bm_sq_gi, bm_sq_gl, bm_sq_gr, bm_sr_kt, bm_sr_kn, bm_sr_sz, bm_sr_sl, bm_sr_gi, bm_sr_gl, bm_sr_gr]
  exact vb_X7_clear_20 q
def tb_keep (w : bm_W) (t : Nat) : bm_W := if 12 ≤ bm_gi w t 5 then bm_si w t 6 (bm_w (bm_gi w t 6 + rg_rc w (tb_row w t (bm_gi w t 5) + 1))) else bm_si (bm_si w t 6 (bm_w (bm_gi w t 6 + rg_rc w (tb_row w t (bm_gi w t 5) + 1)))) t 5 (bm_w (bm_gi w t 5 + 1))
theorem sp_keepRow {d t : Nat} {w : bm_W} {Φ : bm_Rt → bm_W → Prop} (h : sh_Tb t w) : bm_Call bm_pg (d + 4) y_X7_keepRow [bm_r (some t)] w Φ ↔ Φ (.inl none) (tb_keep w t) := by
  refine bm_ans (fun Ψ q => vc_X7_keepRow ?_)
  have hr := h.row (bm_gi w t 5)
  unfold tb_keep at q
  simp only [bm_c0_v, bm_c1_v, bm_c2_v, bm_c3_v, bm_c4_v, bm_c5_v, bm_u_some, decide_eq_true_eq, true_and, and_true, and_self, Bool.not_eq_true, Bool.not_eq_true', decide_eq_false_iff_not, if_true, if_false, ite_true, ite_false, eq_self, h.1, h.2.1, h.2.2.1, h.2.2.2.1, h.2.2.2.2.1, h.2.2.2.2.2.1, h.2.2.2.2.2.2.1, h.2.2.2.2.2.2.2.1, h.2.2.2.2.2.2.2.2.1, h.2.2.2.2.2.2.2.2.2, sp_rowAt h, hr.1, hr.2.1, hr.2.2, hr.2.2.1, sp_rowCount hr.2.2, bm_si_kt, bm_si_kn, bm_si_sz, bm_si_sl, bm_si_gi, bm_si_gl, bm_si_gr, bm_sq_kt, bm_sq_kn, bm_sq_sz, bm_sq_sl, bm_sq_gi, bm_sq_gl, bm_sq_gr, bm_sr_kt, bm_sr_kn, bm_sr_sz, bm_sr_sl, bm_sr_gi, bm_sr_gl, bm_sr_gr]
  simp only [Nat.reduceEqDiff, and_false, if_false]
  split
  · rename_i c
    rw [if_pos c] at q
    exact q
  · rename_i c
    rw [if_neg c] at q
    exact q
/-- programs -/
def sh_Pg (p : Nat) (w : bm_W) : Prop := bm_kt w p = 3 ∧ bm_gr w p 0 = some (p + 1) ∧ bm_gr w p 1 = some (p + 2) ∧ bm_gr w p 2 = some (p + 3) ∧ bm_gr w p 3 = some (p + 11) ∧ bm_kt w (p + 1) = 24 ∧ bm_kn w (p + 1) = 6 ∧ bm_kt w (p + 2) = 26 ∧ bm_kn w (p + 2) = 6 ∧ sh_Fn (p + 3) w ∧ sh_Tb (p + 11) w ∧ (∀ i, i < 6 → bm_gr w (p + 1) i = some (p + 18 + 8 * i) ∧ sh_Fn (p + 18 + 8 * i) w) ∧ ∀ i, i < 6 → bm_gr w (p + 2) i = some (p + 66 + 7 * i) ∧ sh_Tb (p + 66 + 7 * i) w
theorem sh_Pg.fr {A : Nat → Prop} {p : Nat} {w w' : bm_W} (h : q_fr A w w') (hT : sh_Pg p w) : sh_Pg p w' := by
  unfold sh_Pg
  rw [h.kt, h.kn, h.gr]
  obtain ⟨h1, h2, h3, h4, h5, h6, h7, h8, h9, h10, h11, h12, h13⟩ := hT
  exact ⟨h1, h2, h3, h4, h5, h6, h7, h8, h9, h10.fr h, h11.fr h, fun i hi => ⟨(h12 i hi).1, (h12 i hi).2.fr h⟩, fun i hi => ⟨(h13 i hi).1, (h13 i hi).2.fr h⟩⟩
def pg_fn (p : Nat) (i : Int) : Nat := if 0 ≤ i ∧ i < 6 then p + 18 + 8 * i.toNat else p + 3
def pg_tb (p : Nat) (i : Int) : Nat := if 0 ≤ i ∧ i < 6 then p + 66 + 7 * i.toNat else p + 11
theorem sh_Pg.fn {p : Nat} {w : bm_W} (h : sh_Pg p w) (i : Int) : sh_Fn (pg_fn p i) w := by
  unfold pg_fn
  split
  · exact (h.2.2.2.2.2.2.2.2.2.2.2.1 i.toNat (by omega)).2
  · exact h.2.2.2.2.2.2.2.2.2.1
theorem sh_Pg.tb {p : Nat} {w : bm_W} (h : sh_Pg p w) (i : Int) : sh_Tb (pg_tb p i) w := by
  unfold pg_tb
  split
  · exact (h.2.2.2.2.2.2.2.2.2.2.2.2 i.toNat (by omega)).2
  · exact h.2.2.2.2.2.2.2.2.2.2.1
theorem sp_funAt {d p : Nat} {i : Int} {w : bm_W} {Φ : bm_Rt → bm_W → Prop} (h : sh_Pg p w) : bm_Call bm_pg (d + 1) y_X3_funAt [bm_r (some p), bm_i i] w Φ ↔ Φ (.inl (some (bm_r (some (pg_fn p i))))) w := by
  refine bm_ans (fun Ψ q => vc_X3_funAt ?_)
  unfold pg_fn at q
  simp only [bm_c0_v, bm_c1_v, bm_c2_v, bm_c3_v, bm_c4_v, bm_c5_v, bm_u_some, decide_eq_true_eq, true_and, and_true, and_self, Bool.not_eq_true, Bool.not_eq_true', decide_eq_false_iff_not, if_true, if_false, ite_true, ite_false, eq_self, h.1, h.2.1, h.2.2.1, h.2.2.2.1, h.2.2.2.2.1, h.2.2.2.2.2.1, h.2.2.2.2.2.2.1, h.2.2.2.2.2.2.2.1, h.2.2.2.2.2.2.2.2.1, h.2.2.2.2.2.2.2.2.2, bm_in, Option.isSome_none, Bool.false_eq_true]
  by_cases c : 0 ≤ i ∧ i < 6
  · rw [if_pos c] at q
    rw [if_neg (by omega)]
    refine ⟨by decide, ?_⟩
    rw [if_neg (by omega)]
    refine ⟨by omega, ?_⟩
    rw [(h.2.2.2.2.2.2.2.2.2.2.2.1 i.toNat (by omega)).1]
    exact q
  · rw [if_neg c] at q
    by_cases c2 : i < 0
    · rw [if_pos c2]; exact q
    · rw [if_neg c2]
      refine ⟨by decide, ?_⟩
      rw [if_pos (by omega)]
      exact q
theorem sp_tableAt {d p : Nat} {i : Int} {w : bm_W} {Φ : bm_Rt → bm_W → Prop} (h : sh_Pg p w) : bm_Call bm_pg (d + 1) y_X3_tableAt [bm_r (some p), bm_i i] w Φ ↔ Φ (.inl (some (bm_r (some (pg_tb p i))))) w := by
  refine bm_ans (fun Ψ q => vc_X3_tableAt ?_)
  unfold pg_tb at q
  simp only [bm_c0_v, bm_c1_v, bm_c2_v, bm_c3_v, bm_c4_v, bm_c5_v, bm_u_some, decide_eq_true_eq, true_and, and_true, and_self, Bool.not_eq_true, Bool.not_eq_true', decide_eq_false_iff_not, if_true, if_false, ite_true, ite_false, eq_self, h.1, h.2.1, h.2.2.1, h.2.2.2.1, h.2.2.2.2.1, h.2.2.2.2.2.1, h.2.2.2.2.2.2.1, h.2.2.2.2.2.2.2.1, h.2.2.2.2.2.2.2.2.1, h.2.2.2.2.2.2.2.2.2, bm_in, Option.isSome_none, Bool.false_eq_true]
  by_cases c : 0 ≤ i ∧ i < 6
  · rw [if_pos c] at q
    rw [if_neg (by omega)]
    refine ⟨by decide, ?_⟩
    rw [if_neg (by omega)]
    refine ⟨by omega, ?_⟩
    rw [(h.2.2.2.2.2.2.2.2.2.2.2.2 i.toNat (by omega)).1]
    exact q
  · rw [if_neg c] at q
    by_cases c2 : i < 0
    · rw [if_pos c2]; exact q
    · rw [if_neg c2]
      refine ⟨by decide, ?_⟩
      rw [if_pos (by omega)]
      exact q
theorem sp_pclear {d p : Nat} {w : bm_W} {Φ : bm_Rt → bm_W → Prop} (h : sh_Pg p w) : bm_Call bm_pg (d + 1) y_X3_clear [bm_r (some p)] w Φ ↔ Φ (.inl none) (bm_si (bm_si (bm_si w p 4 0) p 5 0) p 6 0) := by
  refine bm_ans (fun Ψ q => vc_X3_clear ?_)
  simp only [bm_c0_v, bm_c1_v, bm_c2_v, bm_c3_v, bm_c4_v, bm_c5_v, bm_u_some, decide_eq_true_eq, true_and, and_true, and_self, Bool.not_eq_true, Bool.not_eq_true', decide_eq_false_iff_not, if_true, if_false, ite_true, ite_false, eq_self, h.1, h.2.1, h.2.2.1, h.2.2.2.1, h.2.2.2.2.1, h.2.2.2.2.2.1, h.2.2.2.2.2.2.1, h.2.2.2.2.2.2.2.1, h.2.2.2.2.2.2.2.2.1, h.2.2.2.2.2.2.2.2.2, bm_si_kt, bm_si_kn, bm_si_sz, bm_si_sl, bm_si_gi, bm_si_gl, bm_si_gr, bm_sq_kt, bm_sq_kn, bm_sq_sz, bm_sq_sl, bm_sq_gi, bm_sq_gl, bm_sq_gr, bm_sr_kt, bm_sr_kn, bm_sr_sz, bm_sr_sl, bm_sr_gi, bm_sr_gl, bm_sr_gr]
  exact q
theorem sp_nextFun {d p : Nat} {w : bm_W} {Φ : bm_Rt → bm_W → Prop} (h : sh_Pg p w) : bm_Call bm_pg (d + 4) y_X3_nextFun [bm_r (some p)] w Φ ↔ Φ (.inl (some (bm_r (some (pg_fn p (bm_gi w p 4)))))) (fn_clr w (pg_fn p (bm_gi w p 4))) := by
  refine bm_ans (fun Ψ q => vc_X3_nextFun ?_)
  have hf := h.fn (bm_gi w p 4)
  simp only [bm_c0_v, bm_c1_v, bm_c2_v, bm_c3_v, bm_c4_v, bm_c5_v, bm_u_some, decide_eq_true_eq, true_and, and_true, and_self, Bool.not_eq_true, Bool.not_eq_true', decide_eq_false_iff_not, if_true, if_false, ite_true, ite_false, eq_self, h.1, h.2.1, h.2.2.1, h.2.2.2.1, h.2.2.2.2.1, h.2.2.2.2.2.1, h.2.2.2.2.2.2.1, h.2.2.2.2.2.2.2.1, h.2.2.2.2.2.2.2.2.1, h.2.2.2.2.2.2.2.2.2, sp_funAt h, hf.1, sp_fclear hf]
  exact q
theorem sp_keepFun {d p : Nat} {w : bm_W} {Φ : bm_Rt → bm_W → Prop} (h : sh_Pg p w) : bm_Call bm_pg (d + 1) y_X3_keepFun [bm_r (some p)] w Φ ↔ Φ (.inl none) (if 6 ≤ bm_gi w p 4 then w else bm_si w p 4 (bm_w (bm_gi w p 4 + 1))) := by
  refine bm_ans (fun Ψ q => vc_X3_keepFun ?_)
  simp only [bm_c0_v, bm_c1_v, bm_c2_v, bm_c3_v, bm_c4_v, bm_c5_v, bm_u_some, decide_eq_true_eq, true_and, and_true, and_self, Bool.not_eq_true, Bool.not_eq_true', decide_eq_false_iff_not, if_true, if_false, ite_true, ite_false, eq_self, h.1, h.2.1, h.2.2.1, h.2.2.2.1, h.2.2.2.2.1, h.2.2.2.2.2.1, h.2.2.2.2.2.2.1, h.2.2.2.2.2.2.2.1, h.2.2.2.2.2.2.2.2.1, h.2.2.2.2.2.2.2.2.2]
  grind
theorem sp_nextTable {d p : Nat} {w : bm_W} {Φ : bm_Rt → bm_W → Prop} (h : sh_Pg p w) : bm_Call bm_pg (d + 2) y_X3_nextTable [bm_r (some p)] w Φ ↔ Φ (.inl (some (bm_r (some (pg_tb p (bm_gi w p 5)))))) (bm_si (bm_si (bm_si (bm_sq w (pg_tb p (bm_gi w p 5)) 3 0) (pg_tb p (bm_gi w p 5)) 4 0) (pg_tb p (bm_gi w p 5)) 5 0) (pg_tb p (bm_gi w p 5)) 6 0) := by
  refine bm_ans (fun Ψ q => vc_X3_nextTable ?_)
  have hf := h.tb (bm_gi w p 5)
  simp only [bm_c0_v, bm_c1_v, bm_c2_v, bm_c3_v, bm_c4_v, bm_c5_v, bm_u_some, decide_eq_true_eq, true_and, and_true, and_self, Bool.not_eq_true, Bool.not_eq_true', decide_eq_false_iff_not, if_true, if_false, ite_true, ite_false, eq_self, h.1, h.2.1, h.2.2.1, h.2.2.2.1, h.2.2.2.2.1, h.2.2.2.2.2.1, h.2.2.2.2.2.2.1, h.2.2.2.2.2.2.2.1, h.2.2.2.2.2.2.2.2.1, h.2.2.2.2.2.2.2.2.2, sp_tableAt h, hf.1, sp_tbclear hf]
  exact q
theorem sp_keepTable {d p : Nat} {w : bm_W} {Φ : bm_Rt → bm_W → Prop} (h : sh_Pg p w) : bm_Call bm_pg (d + 1) y_X3_keepTable [bm_r (some p)] w Φ ↔ Φ (.inl none) (if 6 ≤ bm_gi w p 5 then w else bm_si w p 5 (bm_w (bm_gi w p 5 + 1))) := by
  refine bm_ans (fun Ψ q => vc_X3_keepTable ?_)
  simp only [bm_c0_v, bm_c1_v, bm_c2_v, bm_c3_v, bm_c4_v, bm_c5_v, bm_u_some, decide_eq_true_eq, true_and, and_true, and_self, Bool.not_eq_true, Bool.not_eq_true', decide_eq_false_iff_not, if_true, if_false, ite_true, ite_false, eq_self, h.1, h.2.1, h.2.2.1, h.2.2.2.1, h.2.2.2.2.1, h.2.2.2.2.2.1, h.2.2.2.2.2.2.1, h.2.2.2.2.2.2.2.1, h.2.2.2.2.2.2.2.2.1, h.2.2.2.2.2.2.2.2.2]
  grind
theorem sp_nextIf {d p : Nat} {w : bm_W} {Φ : bm_Rt → bm_W → Prop} (h : sh_Pg p w) : bm_Call bm_pg (d + 1) y_X3_nextIf [bm_r (some p)] w Φ ↔ Φ (.inl (some (bm_i (bm_w (bm_w (bm_gi w p 6 + 1) - 1))))) (bm_si w p 6 (bm_w (bm_gi w p 6 + 1))) := by
  refine bm_ans (fun Ψ q => vc_X3_nextIf ?_)
  simp only [bm_c0_v, bm_c1_v, bm_c2_v, bm_c3_v, bm_c4_v, bm_c5_v, bm_u_some, decide_eq_true_eq, true_and, and_true, and_self, Bool.not_eq_true, Bool.not_eq_true', decide_eq_false_iff_not, if_true, if_false, ite_true, ite_false, eq_self, h.1, h.2.1, h.2.2.1, h.2.2.2.1, h.2.2.2.2.1, h.2.2.2.2.2.1, h.2.2.2.2.2.2.1, h.2.2.2.2.2.2.2.1, h.2.2.2.2.2.2.2.2.1, h.2.2.2.2.2.2.2.2.2, bm_si_kt, bm_si_kn, bm_si_sz, bm_si_sl, bm_si_gi, bm_si_gl, bm_si_gr, bm_sq_kt, bm_sq_kn, bm_sq_sz, bm_sq_sl, bm_sq_gi, bm_sq_gl, bm_sq_gr, bm_sr_kt, bm_sr_kn, bm_sr_sz, bm_sr_sl, bm_sr_gi, bm_sr_gl, bm_sr_gr]
  exact q
