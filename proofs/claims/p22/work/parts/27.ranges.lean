/-! ===== ranges of the class ===== -/
def sh_Rg (r : Nat) (w : bm_W) : Prop := bm_kt w r = 4 ∧ bm_gr w r 0 = some (r + 1) ∧ bm_gr w r 1 = some (r + 2) ∧ bm_kt w (r + 1) = 21 ∧ bm_kn w (r + 1) = 3 ∧ bm_kt w (r + 2) = 21 ∧ bm_kn w (r + 2) = 3
theorem sh_Rg.fr {A : Nat → Prop} {r : Nat} {w w' : bm_W} (h : q_fr A w w') (hT : sh_Rg r w) : sh_Rg r w' := by
  unfold sh_Rg
  rw [h.kt, h.kn, h.gr]
  exact hT
abbrev rg_lo (w : bm_W) (r : Nat) (i : Int) : Int := if 0 ≤ i ∧ i < 3 then bm_gi w (r + 1) i.toNat else 0
abbrev rg_hi (w : bm_W) (r : Nat) (i : Int) : Int := if 0 ≤ i ∧ i < 3 then bm_gi w (r + 2) i.toNat else 0
abbrev rg_wd (w : bm_W) (r : Nat) (i : Int) : Int := bm_w (bm_w (rg_hi w r i - rg_lo w r i) + 1)
abbrev rg_rc (w : bm_W) (r : Nat) : Int := bm_w (bm_w (rg_wd w r 0 * rg_wd w r 1) * rg_wd w r 2)
def rg_put (w : bm_W) (r : Nat) (i lo hi : Int) : bm_W := if 0 ≤ i ∧ i < 3 then bm_si (bm_si w (r + 1) i.toNat lo) (r + 2) i.toNat hi else w
theorem sp_put {d r : Nat} {i lo hi : Int} {w : bm_W} {Φ : bm_Rt → bm_W → Prop} (h : sh_Rg r w) : bm_Call bm_pg (d + 1) y_X4_put [bm_r (some r), bm_i i, bm_i lo, bm_i hi] w Φ ↔ Φ (.inl none) (rg_put w r i lo hi) := by
  refine bm_ans (fun Ψ q => vc_X4_put ?_)
  unfold rg_put at q
  simp only [bm_c0_v, bm_c1_v, bm_c2_v, bm_c3_v, bm_c4_v, bm_c5_v, bm_u_some, decide_eq_true_eq, true_and, and_true, and_self, Bool.not_eq_true, Bool.not_eq_true', decide_eq_false_iff_not, if_true, if_false, ite_true, ite_false, eq_self, h.1, h.2.1, h.2.2.1, h.2.2.2.1, h.2.2.2.2.1, h.2.2.2.2.2.1, h.2.2.2.2.2.2, bm_in, bm_si_kt, bm_si_kn, bm_si_sz, bm_si_sl, bm_si_gi, bm_si_gl, bm_si_gr, bm_sq_kt, bm_sq_kn, bm_sq_sz, bm_sq_sl, bm_sq_gi, bm_sq_gl, bm_sq_gr, bm_sr_kt, bm_sr_kn, bm_sr_sz, bm_sr_sl, bm_sr_gi, bm_sr_gl, bm_sr_gr]
  grind
theorem sp_low {d r : Nat} {i : Int} {w : bm_W} {Φ : bm_Rt → bm_W → Prop} (h : sh_Rg r w) : bm_Call bm_pg (d + 1) y_X4_low [bm_r (some r), bm_i i] w Φ ↔ Φ (.inl (some (bm_i (rg_lo w r i)))) w := by
  refine bm_ans (fun Ψ q => vc_X4_low ?_)
  simp only [bm_c0_v, bm_c1_v, bm_c2_v, bm_c3_v, bm_c4_v, bm_c5_v, bm_u_some, decide_eq_true_eq, true_and, and_true, and_self, Bool.not_eq_true, Bool.not_eq_true', decide_eq_false_iff_not, if_true, if_false, ite_true, ite_false, eq_self, h.1, h.2.1, h.2.2.1, h.2.2.2.1, h.2.2.2.2.1, h.2.2.2.2.2.1, h.2.2.2.2.2.2, bm_in]
  grind
theorem sp_high {d r : Nat} {i : Int} {w : bm_W} {Φ : bm_Rt → bm_W → Prop} (h : sh_Rg r w) : bm_Call bm_pg (d + 1) y_X4_high [bm_r (some r), bm_i i] w Φ ↔ Φ (.inl (some (bm_i (rg_hi w r i)))) w := by
  refine bm_ans (fun Ψ q => vc_X4_high ?_)
  simp only [bm_c0_v, bm_c1_v, bm_c2_v, bm_c3_v, bm_c4_v, bm_c5_v, bm_u_some, decide_eq_true_eq, true_and, and_true, and_self, Bool.not_eq_true, Bool.not_eq_true', decide_eq_false_iff_not, if_true, if_false, ite_true, ite_false, eq_self, h.1, h.2.1, h.2.2.1, h.2.2.2.1, h.2.2.2.2.1, h.2.2.2.2.2.1, h.2.2.2.2.2.2, bm_in]
  grind
theorem sp_width {d r : Nat} {i : Int} {w : bm_W} {Φ : bm_Rt → bm_W → Prop} (h : sh_Rg r w) : bm_Call bm_pg (d + 2) y_X4_width [bm_r (some r), bm_i i] w Φ ↔ Φ (.inl (some (bm_i (rg_wd w r i)))) w := by
  refine bm_ans (fun Ψ q => vc_X4_width ?_)
  simp only [bm_c0_v, bm_c1_v, bm_c2_v, bm_c3_v, bm_c4_v, bm_c5_v, bm_u_some, decide_eq_true_eq, true_and, and_true, and_self, Bool.not_eq_true, Bool.not_eq_true', decide_eq_false_iff_not, if_true, if_false, ite_true, ite_false, eq_self, sp_low h, sp_high h, h.1, h.2.1, h.2.2.1, h.2.2.2.1, h.2.2.2.2.1, h.2.2.2.2.2.1, h.2.2.2.2.2.2, q]
theorem sp_rowCount {d r : Nat} {w : bm_W} {Φ : bm_Rt → bm_W → Prop} (h : sh_Rg r w) : bm_Call bm_pg (d + 3) y_X4_rowCount [bm_r (some r)] w Φ ↔ Φ (.inl (some (bm_i (rg_rc w r)))) w := by
  refine bm_ans (fun Ψ q => vc_X4_rowCount ?_)
  simp only [bm_c0_v, bm_c1_v, bm_c2_v, bm_c3_v, bm_c4_v, bm_c5_v, bm_u_some, decide_eq_true_eq, true_and, and_true, and_self, Bool.not_eq_true, Bool.not_eq_true', decide_eq_false_iff_not, if_true, if_false, ite_true, ite_false, eq_self, sp_width h, h.1, h.2.1, h.2.2.1, h.2.2.2.1, h.2.2.2.2.1, h.2.2.2.2.2.1, h.2.2.2.2.2.2, q]
theorem rg_put_fr {w0 w : bm_W} {r : Nat} {i lo hi : Int} {A : Nat → Prop} (h : q_fr A w0 w) (h1 : A (r + 1)) (h2 : A (r + 2)) : q_fr A w0 (rg_put w r i lo hi) := by
  unfold rg_put
  split
  · exact (h.si h1).si h2
  · exact h
theorem rg_put_lo {w : bm_W} {r : Nat} {i lo hi j : Int} : rg_lo (rg_put w r i lo hi) r j = if 0 ≤ i ∧ i < 3 ∧ j = i then lo else rg_lo w r j := by
  unfold rg_lo rg_put
  by_cases c : 0 ≤ i ∧ i < 3
  · rw [if_pos c]
    simp only [bm_si_gi]
    grind
  · rw [if_neg c]
    grind
theorem rg_put_hi {w : bm_W} {r : Nat} {i lo hi j : Int} : rg_hi (rg_put w r i lo hi) r j = if 0 ≤ i ∧ i < 3 ∧ j = i then hi else rg_hi w r j := by
  unfold rg_hi rg_put
  by_cases c : 0 ≤ i ∧ i < 3
  · rw [if_pos c]
    simp only [bm_si_gi]
    grind
  · rw [if_neg c]
    grind
def rg_clr (w : bm_W) (r : Nat) : bm_W := rg_put (rg_put (rg_put w r 0 0 0) r 1 0 0) r 2 0 0
theorem rg_clr_fr {w0 w : bm_W} {r : Nat} {A : Nat → Prop} (h : q_fr A w0 w) (h1 : A (r + 1)) (h2 : A (r + 2)) : q_fr A w0 (rg_clr w r) := rg_put_fr (rg_put_fr (rg_put_fr h h1 h2) h1 h2) h1 h2
theorem rg_clr_lo {w : bm_W} {r : Nat} {j : Int} : rg_lo (rg_clr w r) r j = 0 := by
  unfold rg_clr
  rw [rg_put_lo, rg_put_lo, rg_put_lo]
  unfold rg_lo
  grind
theorem rg_clr_hi {w : bm_W} {r : Nat} {j : Int} : rg_hi (rg_clr w r) r j = 0 := by
  unfold rg_clr
  rw [rg_put_hi, rg_put_hi, rg_put_hi]
  unfold rg_hi
  grind
theorem sh_Rg.put {r : Nat} {w : bm_W} {i lo hi : Int} (h : sh_Rg r w) : sh_Rg r (rg_put w r i lo hi) := sh_Rg.fr (A := fun _ => True) (rg_put_fr q_fr.rf trivial trivial) h
theorem sp_rclear {d r : Nat} {w : bm_W} {Φ : bm_Rt → bm_W → Prop} (h : sh_Rg r w) : bm_Call bm_pg (d + 2) y_X4_clear [bm_r (some r)] w Φ ↔ Φ (.inl none) (rg_clr w r) := by
  refine bm_ans (fun Ψ q => vc_X4_clear ?_)
  have st : ∀ (i : Int) (w1 : bm_W), 0 ≤ i → i < 3 → sh_Rg r w1 → bk_X4_clear_2 (d + 1) Ψ r (i + 1) (rg_put w1 r i 0 0) → bk_X4_clear_2 (d + 1) Ψ r i w1 := by
    intro i w1 h0 h1 hh k
    refine vb_X4_clear_2 ?_
    simp only [bm_c0_v, bm_c1_v, bm_c2_v, bm_c3_v, bm_c4_v, bm_c5_v, bm_u_some, decide_eq_true_eq, true_and, and_true, and_self, Bool.not_eq_true, Bool.not_eq_true', decide_eq_false_iff_not, if_true, if_false, ite_true, ite_false, eq_self, sp_put hh, hh.1, hh.2.1, hh.2.2.1, hh.2.2.2.1, hh.2.2.2.2.1, hh.2.2.2.2.2.1, hh.2.2.2.2.2.2]
    rw [if_neg (by omega), q_wI ⟨by omega, by omega⟩]
    exact k
  refine st 0 _ (by decide) (by decide) h (st 1 _ (by decide) (by decide) h.put (st 2 _ (by decide) (by decide) h.put.put ?_))
  refine vb_X4_clear_2 ?_
  simp only [bm_c0_v, bm_c1_v, bm_c2_v, bm_c3_v, bm_c4_v, bm_c5_v, bm_u_some, decide_eq_true_eq, true_and, and_true, and_self, Bool.not_eq_true, Bool.not_eq_true', decide_eq_false_iff_not, if_true, if_false, ite_true, ite_false, eq_self]
  rw [if_pos (by decide)]
  exact q
