/-! ===== the law's program: its form and its meaning (laid by gen_c3.py) ===== -/
/-- the kinds of its tokens -/
def lw_K (op s1 s2 rs : Int) : List Int := [4, 3, 16, 3, 5, 2, 33, 2, 18, 3, 5, 2, 33, 2, 17, 22, 6, 3, op, 2, 7, 3, s1, 3, 8, 3, s2, 2, 19, 12, 3, 13, 3, 20, 2, 18, 2, 20, rs, 19, 0]
/-- its tokens -/
def lw_T (K V : Nat → Int) (A B op s1 s2 rs : Int) : Prop := (∀ j, j ≤ 40 → K j = (lw_K op s1 s2 rs).getD j 0) ∧ (V 1 = 102 ∧ V 3 = 120 ∧ V 9 = 121 ∧ V 17 = 120 ∧ V 21 = 120 ∧ V 23 = 121 ∧ V 25 = 121 ∧ V 30 = 116 ∧ V 32 = 102) ∧ (V 5 = 0 ∧ V 7 = A ∧ V 11 = 0 ∧ V 13 = B ∧ V 34 = 0 ∧ V 36 = 0) ∧ (1 ≤ A ∧ A ≤ 4) ∧ (1 ≤ B ∧ B ≤ 3) ∧ (op = 22 ∨ op = 23 ∨ op = 24 ∨ op = 25 ∨ op = 26 ∨ op = 27) ∧ (s1 = 28 ∨ s1 = 29 ∨ s1 = 30 ∨ s1 = 31 ∨ s1 = 32) ∧ (s2 = 28 ∨ s2 = 29 ∨ s2 = 30 ∨ s2 = 31 ∨ s2 = 32) ∧ (rs = 14 ∨ rs = 15)
section LWC
variable {K V : Nat → Int} {A B op s1 s2 rs : Int}
theorem lk_0 (h : lw_T K V A B op s1 s2 rs) : K 0 = 4 := h.1 0 (by decide)
theorem lk_1 (h : lw_T K V A B op s1 s2 rs) : K 1 = 3 := h.1 1 (by decide)
theorem lk_2 (h : lw_T K V A B op s1 s2 rs) : K 2 = 16 := h.1 2 (by decide)
theorem lk_3 (h : lw_T K V A B op s1 s2 rs) : K 3 = 3 := h.1 3 (by decide)
theorem lk_4 (h : lw_T K V A B op s1 s2 rs) : K 4 = 5 := h.1 4 (by decide)
theorem lk_5 (h : lw_T K V A B op s1 s2 rs) : K 5 = 2 := h.1 5 (by decide)
theorem lk_6 (h : lw_T K V A B op s1 s2 rs) : K 6 = 33 := h.1 6 (by decide)
theorem lk_7 (h : lw_T K V A B op s1 s2 rs) : K 7 = 2 := h.1 7 (by decide)
theorem lk_8 (h : lw_T K V A B op s1 s2 rs) : K 8 = 18 := h.1 8 (by decide)
theorem lk_9 (h : lw_T K V A B op s1 s2 rs) : K 9 = 3 := h.1 9 (by decide)
theorem lk_10 (h : lw_T K V A B op s1 s2 rs) : K 10 = 5 := h.1 10 (by decide)
theorem lk_11 (h : lw_T K V A B op s1 s2 rs) : K 11 = 2 := h.1 11 (by decide)
theorem lk_12 (h : lw_T K V A B op s1 s2 rs) : K 12 = 33 := h.1 12 (by decide)
theorem lk_13 (h : lw_T K V A B op s1 s2 rs) : K 13 = 2 := h.1 13 (by decide)
theorem lk_14 (h : lw_T K V A B op s1 s2 rs) : K 14 = 17 := h.1 14 (by decide)
theorem lk_15 (h : lw_T K V A B op s1 s2 rs) : K 15 = 22 := h.1 15 (by decide)
theorem lk_16 (h : lw_T K V A B op s1 s2 rs) : K 16 = 6 := h.1 16 (by decide)
theorem lk_17 (h : lw_T K V A B op s1 s2 rs) : K 17 = 3 := h.1 17 (by decide)
theorem lk_18 (h : lw_T K V A B op s1 s2 rs) : K 18 = op := h.1 18 (by decide)
theorem lk_19 (h : lw_T K V A B op s1 s2 rs) : K 19 = 2 := h.1 19 (by decide)
theorem lk_20 (h : lw_T K V A B op s1 s2 rs) : K 20 = 7 := h.1 20 (by decide)
theorem lk_21 (h : lw_T K V A B op s1 s2 rs) : K 21 = 3 := h.1 21 (by decide)
theorem lk_22 (h : lw_T K V A B op s1 s2 rs) : K 22 = s1 := h.1 22 (by decide)
theorem lk_23 (h : lw_T K V A B op s1 s2 rs) : K 23 = 3 := h.1 23 (by decide)
theorem lk_24 (h : lw_T K V A B op s1 s2 rs) : K 24 = 8 := h.1 24 (by decide)
theorem lk_25 (h : lw_T K V A B op s1 s2 rs) : K 25 = 3 := h.1 25 (by decide)
theorem lk_26 (h : lw_T K V A B op s1 s2 rs) : K 26 = s2 := h.1 26 (by decide)
theorem lk_27 (h : lw_T K V A B op s1 s2 rs) : K 27 = 2 := h.1 27 (by decide)
theorem lk_28 (h : lw_T K V A B op s1 s2 rs) : K 28 = 19 := h.1 28 (by decide)
theorem lk_29 (h : lw_T K V A B op s1 s2 rs) : K 29 = 12 := h.1 29 (by decide)
theorem lk_30 (h : lw_T K V A B op s1 s2 rs) : K 30 = 3 := h.1 30 (by decide)
theorem lk_31 (h : lw_T K V A B op s1 s2 rs) : K 31 = 13 := h.1 31 (by decide)
theorem lk_32 (h : lw_T K V A B op s1 s2 rs) : K 32 = 3 := h.1 32 (by decide)
theorem lk_33 (h : lw_T K V A B op s1 s2 rs) : K 33 = 20 := h.1 33 (by decide)
theorem lk_34 (h : lw_T K V A B op s1 s2 rs) : K 34 = 2 := h.1 34 (by decide)
theorem lk_35 (h : lw_T K V A B op s1 s2 rs) : K 35 = 18 := h.1 35 (by decide)
theorem lk_36 (h : lw_T K V A B op s1 s2 rs) : K 36 = 2 := h.1 36 (by decide)
theorem lk_37 (h : lw_T K V A B op s1 s2 rs) : K 37 = 20 := h.1 37 (by decide)
theorem lk_38 (h : lw_T K V A B op s1 s2 rs) : K 38 = rs := h.1 38 (by decide)
theorem lk_39 (h : lw_T K V A B op s1 s2 rs) : K 39 = 19 := h.1 39 (by decide)
theorem lk_40 (h : lw_T K V A B op s1 s2 rs) : K 40 = 0 := h.1 40 (by decide)
theorem lg_F (h : lw_T K V A B op s1 s2 rs) : gF K 66 17 ∧ gF K 66 19 ∧ gF K 66 21 ∧ gF K 66 23 ∧ gF K 66 25 ∧ gF K 66 27 := by
  obtain ⟨-, -, -, -, -, h1, h2, h3, h4⟩ := id h
  exact ⟨⟨Or.inr (lk_17 h), by rw [lk_18 h]; omega, by decide⟩, ⟨Or.inl (lk_19 h), by rw [lk_20 h]; omega, by decide⟩, ⟨Or.inr (lk_21 h), by rw [lk_22 h]; omega, by decide⟩, ⟨Or.inr (lk_23 h), by rw [lk_24 h]; omega, by decide⟩, ⟨Or.inr (lk_25 h), by rw [lk_26 h]; omega, by decide⟩, ⟨Or.inl (lk_27 h), by rw [lk_28 h]; omega, by decide⟩⟩
theorem lg_S (h : lw_T K V A B op s1 s2 rs) : gS K 20 ∧ gS K 24 ∧ gS K 28 := by
  unfold gS
  rw [lk_20 h, lk_24 h, lk_28 h]
  omega
theorem le_17 (h : lw_T K V A B op s1 s2 rs) (n : Nat) : f_ex K 66 (n + 30) 6 1 (false, 17) = (false, 20) := by
  obtain ⟨-, -, -, -, -, h1, h2, h3, h4⟩ := id h
  obtain ⟨f17, f19, -⟩ := lg_F h
  rw [g6 (m := n + 29) (by rw [lk_17 h]; decide)]
  exact gr0 (m := n + 17) f17 f19 (by rw [lk_18 h]; omega) (by rw [lk_18 h]; omega) (by decide) (lg_S h).1
theorem le_21 (h : lw_T K V A B op s1 s2 rs) (n : Nat) : f_ex K 66 (n + 30) 6 1 (false, 21) = (false, 24) := by
  obtain ⟨-, -, -, -, -, h1, h2, h3, h4⟩ := id h
  obtain ⟨-, -, f21, f23, -⟩ := lg_F h
  rw [g6 (m := n + 29) (by rw [lk_21 h]; decide)]
  exact gz (m := n + 17) (gb3 (m := n + 17) f21 f23 (by rw [lk_22 h]; omega) (by rw [lk_22 h]; omega) (by decide) (by rw [lk_24 h]; omega)) (lg_S h).2.1
theorem le_25 (h : lw_T K V A B op s1 s2 rs) (n : Nat) : f_ex K 66 (n + 30) 6 1 (false, 25) = (false, 28) := by
  obtain ⟨-, -, -, -, -, h1, h2, h3, h4⟩ := id h
  obtain ⟨-, -, -, -, f25, f27⟩ := lg_F h
  rw [g6 (m := n + 29) (by rw [lk_25 h]; decide)]
  exact gz (m := n + 17) (gb3 (m := n + 17) f25 f27 (by rw [lk_26 h]; omega) (by rw [lk_26 h]; omega) (by decide) (by rw [lk_28 h]; omega)) (lg_S h).2.2
theorem le_bod (h : lw_T K V A B op s1 s2 rs) : f_bod K (false, 16) = (false, 28) := by
  show f_ex K 66 (414 + 1) 6 0 (false, 16) = _
  rw [f_ex_6, if_pos ⟨rfl, by decide, by rw [lk_16 h]; decide, by rw [lk_16 h]; decide⟩, if_neg (by decide), show (414 : Nat) = 384 + 30 from rfl, show (false, 16).2 + 1 = 17 from rfl, show 0 + 1 = 1 from rfl, le_17 h]
  have e7 : f_exp K 66 7 (false, 20) = (false, 21) := if_pos ⟨rfl, by decide, by rw [lk_20 h]; decide, by rw [lk_20 h]; decide⟩
  have e8 : f_exp K 66 8 (false, 24) = (false, 25) := if_pos ⟨rfl, by decide, by rw [lk_24 h]; decide, by rw [lk_24 h]; decide⟩
  rw [e7, le_21 h, e8, le_25 h]
theorem lx_ok {k : Int} {p : Nat} (hp : p < 1501) (h : K p = k) : f_x K k (false, p) = (false, p + 1) := if_pos ⟨rfl, hp, by rw [h]; exact Int.le_refl _, by rw [h]; exact Int.le_refl _⟩
theorem lo_no {k : Int} {p : Nat} (h : K p ≠ k) : f_opt K k (false, p) = (false, p) := if_neg (fun z => h (Int.le_antisymm z.2.2.2 z.2.2.1))
theorem lw_ok {p : Nat} (hp : p < 1501) (h : K p = 2) : f_wh K (false, p) = (false, p + 1) := by
  unfold f_wh
  rw [lo_no (by rw [h]; decide), lx_ok hp h]
theorem li_ok {p : Nat} (hp : p < 1490) (h0 : K p = 3) (h1 : K (p + 1) = 5) (h2 : K (p + 2) = 2) (h3 : K (p + 3) = 33) (h4 : K (p + 4) = 2) : f_inp K (false, p) = (false, p + 5) := by
  unfold f_inp
  rw [lx_ok (by omega) h0, lx_ok (by omega) h1, lw_ok (by omega) h2, lx_ok (by omega) h3, lw_ok (by omega) h4]
theorem ls_yes {k : Int} {p : Nat} (hp : p < 1501) (h : K p = k) : f_see K f_T (false, p) k k := ⟨rfl, hp, by rw [h]; exact Int.le_refl _, by rw [h]; exact Int.le_refl _⟩
theorem ls_no {a b : Int} {p : Nat} (h : K p < a ∨ b < K p) : ¬ f_see K f_T (false, p) a b := fun z => by have z1 : a ≤ K p := z.2.2.1; have z2 : K p ≤ b := z.2.2.2; omega
theorem l_ins (h : lw_T K V A B op s1 s2 rs) (n : Nat) : f_ins K (n + 2) (false, 3) = (false, 14) := by
  have e1 : f_inp K (false, 3) = (false, 8) := li_ok (p := 3) (by decide) (lk_3 h) (lk_4 h) (lk_5 h) (lk_6 h) (lk_7 h)
  have e2 : f_inp K (false, 9) = (false, 14) := li_ok (p := 9) (by decide) (lk_9 h) (lk_10 h) (lk_11 h) (lk_12 h) (lk_13 h)
  show (if f_see K f_T (f_inp K (false, 3)) 18 18 then f_ins K (n + 1) (false, (f_inp K (false, 3)).2 + 1) else f_inp K (false, 3)) = _
  rw [e1, if_pos (ls_yes (by decide) (lk_8 h))]
  show (if f_see K f_T (f_inp K (false, 9)) 18 18 then f_ins K n (false, (f_inp K (false, 9)).2 + 1) else f_inp K (false, 9)) = _
  rw [e2, if_neg (ls_no (by rw [lk_14 h]; decide))]
theorem l_fun (h : lw_T K V A B op s1 s2 rs) : f_fun K (false, 1) = (false, 29) := by
  unfold f_fun
  rw [lx_ok (p := 1) (by decide) (lk_1 h), lx_ok (p := 2) (by decide) (lk_2 h), show (f_T : Nat) = 1499 + 2 from rfl, l_ins h, lx_ok (p := 14) (by decide) (lk_14 h), lx_ok (p := 15) (by decide) (lk_15 h), le_bod h, lx_ok (p := 28) (by decide) (lk_28 h)]
theorem l_cel (h : lw_T K V A B op s1 s2 rs) : f_cel K (false, 34) = (false, 35) ∧ f_cel K (false, 36) = (false, 37) := by
  unfold f_cel
  rw [if_neg (ls_no (by rw [lk_34 h]; decide)), if_neg (ls_no (by rw [lk_36 h]; decide)), lw_ok (p := 34) (by decide) (lk_34 h), lw_ok (p := 36) (by decide) (lk_36 h), if_neg (ls_no (by rw [lk_35 h]; decide)), if_neg (ls_no (by rw [lk_37 h]; decide))]
  exact ⟨rfl, rfl⟩
theorem l_cls (h : lw_T K V A B op s1 s2 rs) (n : Nat) : f_cls K (n + 2) (false, 34) = (false, 37) := by
  obtain ⟨e1, e2⟩ := l_cel h
  show (if f_see K f_T (f_cel K (false, 34)) 18 18 then f_cls K (n + 1) (false, (f_cel K (false, 34)).2 + 1) else f_cel K (false, 34)) = _
  rw [e1, if_pos (ls_yes (by decide) (lk_35 h))]
  show (if f_see K f_T (f_cel K (false, 36)) 18 18 then f_cls K n (false, (f_cel K (false, 36)).2 + 1) else f_cel K (false, 36)) = _
  rw [e2, if_neg (ls_no (by rw [lk_37 h]; decide))]
theorem l_res (h : lw_T K V A B op s1 s2 rs) : f_res K (false, 38) = (false, 39) := by
  obtain ⟨-, -, -, -, -, -, -, -, hr⟩ := id h
  unfold f_res
  rw [if_neg (ls_no (by rw [lk_38 h]; omega))]
  rcases hr with e | e
  · rw [if_pos (ls_yes (by decide) ((lk_38 h).trans e))]
  · rw [if_neg (ls_no (by rw [lk_38 h]; omega)), lx_ok (p := 38) (by decide) ((lk_38 h).trans e)]
theorem l_row (h : lw_T K V A B op s1 s2 rs) : f_row K (false, 34) = (false, 39) := by
  unfold f_row
  rw [show (f_T : Nat) = 1499 + 2 from rfl, l_cls h, lx_ok (p := 37) (by decide) (lk_37 h), l_res h]
theorem l_rws (h : lw_T K V A B op s1 s2 rs) (n : Nat) : f_rws K (n + 1) (false, 34) = (false, 39) := by
  show (if f_see K f_T (f_row K (false, 34)) 21 21 then f_rws K n (false, (f_row K (false, 34)).2 + 1) else f_row K (false, 34)) = _
  rw [l_row h, if_neg (ls_no (by rw [lk_39 h]; decide))]
theorem l_tab (h : lw_T K V A B op s1 s2 rs) : f_tab K (false, 30) = (false, 40) := by
  unfold f_tab
  rw [lx_ok (p := 30) (by decide) (lk_30 h), lx_ok (p := 31) (by decide) (lk_31 h), lx_ok (p := 32) (by decide) (lk_32 h), lx_ok (p := 33) (by decide) (lk_33 h), show (f_T : Nat) = 1500 + 1 from rfl, l_rws h, lx_ok (p := 39) (by decide) (lk_39 h)]
theorem l_itm (h : lw_T K V A B op s1 s2 rs) : f_itm K (false, 0) = (false, 29) ∧ f_itm K (false, 29) = (false, 40) := by
  unfold f_itm
  rw [if_pos (ls_yes (by decide) (lk_0 h)), if_neg (ls_no (by rw [lk_29 h]; decide)), if_pos (ls_yes (by decide) (lk_29 h))]
  exact ⟨l_fun h, l_tab h⟩
theorem l_its (h : lw_T K V A B op s1 s2 rs) (n : Nat) : f_its K (n + 2) (false, 0) = (false, 40) := by
  obtain ⟨e1, e2⟩ := l_itm h
  show (if (f_itm K (false, 0)).1 = false ∧ ¬ f_see K f_T (f_itm K (false, 0)) 0 0 then f_its K (n + 1) (f_itm K (false, 0)) else f_itm K (false, 0)) = _
  rw [e1, if_pos ⟨rfl, ls_no (by rw [lk_29 h]; decide)⟩]
  show (if (f_itm K (false, 29)).1 = false ∧ ¬ f_see K f_T (f_itm K (false, 29)) 0 0 then f_its K n (f_itm K (false, 29)) else f_itm K (false, 29)) = _
  rw [e2, if_neg (fun z => z.2 (ls_yes (by decide) (lk_40 h)))]
theorem l_form (h : lw_T K V A B op s1 s2 rs) : f_its K f_T (false, 0) = (false, 40) := l_its h 1499
end LWC
