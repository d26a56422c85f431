/-! ===== values of rows of inputs, in the class ===== -/
theorem y_cs_eq {l : List (Int × Int)} (hl : l.length ≤ 3) : y_cs l = s_n l 0 * s_n l 1 * s_n l 2 := by
  unfold s_n
  match l, hl with
  | [], _ => rfl
  | [a], _ => simp [y_cs, y_wd]
  | [a, b], _ => simp [y_cs, y_wd]
  | [a, b, c], _ => simp [y_cs, Int.mul_assoc]
  | _ :: _ :: _ :: _ :: _, h => simp at h
/-- ranges that the class keeps -/
def rgl (r : Nat) (l : List (Int × Int)) (w : bm_W) : Prop := sh_Rg r w ∧ l.length ≤ 3 ∧ y_lk l ∧ ∀ c, c < 3 → bm_gi w (r + 1) c = (l.getD c (0, 0)).1 ∧ bm_gi w (r + 2) c = (l.getD c (0, 0)).2
section CV
variable {d r : Nat} {k : Int} {l : List (Int × Int)} {w : bm_W} {Φ : bm_Rt → bm_W → Prop}
theorem rgl.lo (h : rgl r l w) {i : Nat} (hi : i < 3) : rg_lo w r (i : Int) = (l.getD i (0, 0)).1 := by
  unfold rg_lo
  rw [if_pos ⟨by omega, by omega⟩, Int.toNat_natCast]
  exact (h.2.2.2 i hi).1
theorem rgl.wd (h : rgl r l w) {i : Nat} (hi : i < 3) : rg_wd w r (i : Int) = s_n l i := by
  have a := h.2.2.2 i hi
  have b := s_n_rng h.2.2.1 i
  have e : s_n l i = (l.getD i (0, 0)).2 - (l.getD i (0, 0)).1 + 1 := rfl
  have c : -20 ≤ (l.getD i (0, 0)).1 ∧ (l.getD i (0, 0)).2 ≤ 20 := by
    rcases Nat.lt_or_ge i l.length with z | z
    · have := h.2.2.1 i z; omega
    · rw [List.getD_eq_getElem?_getD, List.getElem?_eq_none z]; decide
  show bm_w (bm_w (rg_hi w r (i : Int) - rg_lo w r (i : Int)) + 1) = _
  unfold rg_hi rg_lo
  rw [if_pos ⟨by omega, by omega⟩, if_pos ⟨by omega, by omega⟩, Int.toNat_natCast, a.1, a.2, q_wI (x := (l.getD i (0, 0)).2 - (l.getD i (0, 0)).1) ⟨by omega, by omega⟩, q_wI ⟨by omega, by omega⟩, e]
theorem rgl.rc (h : rgl r l w) : rg_rc w r = y_cs l ∧ 1 ≤ y_cs l ∧ y_cs l ≤ 68921 := by
  have cs := y_cs_3 h.2.2.1 h.2.1
  have n0 := s_n_rng h.2.2.1 0
  have n1 := s_n_rng h.2.2.1 1
  have n2 := s_n_rng h.2.2.1 2
  have m1 := mul_bd n0.1 n0.2.1 n1.1 n1.2.1
  rw [y_cs_eq h.2.1] at cs ⊢
  refine ⟨?_, cs⟩
  show bm_w (bm_w (rg_wd w r ((0 : Nat) : Int) * rg_wd w r ((1 : Nat) : Int)) * rg_wd w r ((2 : Nat) : Int)) = _
  rw [h.wd (by decide), h.wd (by decide), h.wd (by decide), q_wI (x := s_n l 0 * s_n l 1) ⟨by omega, by omega⟩, q_wI ⟨by omega, by omega⟩]
theorem sp_rc (h : rgl r l w) : bm_Call bm_pg (d + 3) y_X4_rowCount [bm_r (some r)] w Φ ↔ Φ (.inl (some (bm_i (y_cs l)))) w := by
  rw [sp_rowCount h.1, h.rc.1]
theorem sp_valueAt (h : rgl r l w) {i : Nat} (hi : i < 3) (h0 : 0 ≤ k) (h1 : k < 2147483648) : bm_Call bm_pg (d + 3) y_X4_valueAt [bm_r (some r), bm_i k, bm_i (i : Int)] w Φ ↔ Φ (.inl (some (bm_i (s_val l k i)))) w := by
  refine bm_ans (fun Ψ q => vc_X4_valueAt ?_)
  have n1 := s_n_rng h.2.2.1 1
  have n2 := s_n_rng h.2.2.1 2
  have n := s_n_rng h.2.2.1 i
  have m := mul_bd n2.1 n2.2.1 n1.1 n1.2.1
  have fin : ∀ rep : Int, rep = s_rep l i → 1 ≤ rep → bk_X4_valueAt_7 (d + 2) Ψ r k (i : Int) rep 3 w := fun rep hr hr1 => by
    have v := s_val_rng (k := k) (i := i) h.2.2.1
    have ve : s_val l k i = (l.getD i (0, 0)).1 + k / rep % s_n l i := by unfold s_val; rw [hr]
    have d0 : 0 ≤ k / rep := Int.ediv_nonneg h0 (by omega)
    have d1 : k / rep ≤ k := Int.ediv_le_self _ h0
    have m1 := Int.emod_nonneg (k / rep) (show s_n l i ≠ 0 by omega)
    have m2 := Int.emod_lt_of_pos (k / rep) (show 0 < s_n l i by omega)
    refine vb_X4_valueAt_7 ?_
    rw [if_pos (by decide)]
    simp only [h.1.1, true_and, sp_width h.1, sp_low h.1, bm_c1_v, h.wd hi, h.lo hi, Int.tdiv_eq_ediv_of_nonneg h0, q_wI (x := k / rep) ⟨by omega, by omega⟩, Int.tmod_eq_emod_of_nonneg d0, q_wI (x := k / rep % s_n l i) ⟨by omega, by omega⟩]
    rw [if_neg (by simpa using hr1), if_pos (by simpa using n.1), ← ve, q_wI (x := s_val l k i) ⟨by omega, by omega⟩]
    exact ⟨by omega, by omega, q⟩
  have st : ∀ (j : Nat) (rep : Int), j < 3 → 1 ≤ rep * s_n l j → rep * s_n l j ≤ 2000 → bk_X4_valueAt_7 (d + 2) Ψ r k (i : Int) (rep * s_n l j) ((j + 1 : Nat) : Int) w → bk_X4_valueAt_7 (d + 2) Ψ r k (i : Int) rep (j : Int) w := fun j rep hj b1 b2 hb => by
    refine vb_X4_valueAt_7 ?_
    rw [if_neg (by simp; omega)]
    simp only [h.1.1, true_and, sp_width h.1, bm_c1_v, h.wd hj, q_wI (x := rep * s_n l j) ⟨by omega, by omega⟩, bm_w1 (show j < 2147483647 by omega)]
    exact hb
  rcases (show i = 0 ∨ i = 1 ∨ i = 2 by omega) with rfl | rfl | rfl
  · refine st 1 1 (by decide) (by omega) (by omega) (st 2 _ (by decide) ?_ ?_ (fin _ ?_ ?_))
    · rw [Int.one_mul, Int.mul_comm]; omega
    · rw [Int.one_mul, Int.mul_comm]; omega
    · rw [Int.one_mul, Int.mul_comm]; rfl
    · rw [Int.one_mul, Int.mul_comm]; omega
  · refine st 2 1 (by decide) (by omega) (by omega) (fin _ ?_ (by omega))
    rw [Int.one_mul]; rfl
  · exact fin 1 rfl (by decide)
end CV
