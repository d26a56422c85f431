section LWC
variable {K V : Nat → Int} {A B op s1 s2 rs : Int}
/-- ifs and places -/
theorem l_I16 (h : lw_T K V A B op s1 s2 rs) : y_I K 16 = 0 ∧ y_I K 40 = 1 := by
  obtain ⟨-, -, -, -, -, h1, h2, h3, h4⟩ := id h
  have no : ∀ j, j ≤ 40 → j ≠ 16 → f_if K j = false := fun j hj hne => match j, hj, hne with
    | 0, _, _ => decide_eq_false (by rw [lk_0 h]; omega)
    | 1, _, _ => decide_eq_false (by rw [lk_1 h]; omega)
    | 2, _, _ => decide_eq_false (by rw [lk_2 h]; omega)
    | 3, _, _ => decide_eq_false (by rw [lk_3 h]; omega)
    | 4, _, _ => decide_eq_false (by rw [lk_4 h]; omega)
    | 5, _, _ => decide_eq_false (by rw [lk_5 h]; omega)
    | 6, _, _ => decide_eq_false (by rw [lk_6 h]; omega)
    | 7, _, _ => decide_eq_false (by rw [lk_7 h]; omega)
    | 8, _, _ => decide_eq_false (by rw [lk_8 h]; omega)
    | 9, _, _ => decide_eq_false (by rw [lk_9 h]; omega)
    | 10, _, _ => decide_eq_false (by rw [lk_10 h]; omega)
    | 11, _, _ => decide_eq_false (by rw [lk_11 h]; omega)
    | 12, _, _ => decide_eq_false (by rw [lk_12 h]; omega)
    | 13, _, _ => decide_eq_false (by rw [lk_13 h]; omega)
    | 14, _, _ => decide_eq_false (by rw [lk_14 h]; omega)
    | 15, _, _ => decide_eq_false (by rw [lk_15 h]; omega)
    | 16, _, hne => absurd rfl hne
    | 17, _, _ => decide_eq_false (by rw [lk_17 h]; omega)
    | 18, _, _ => decide_eq_false (by rw [lk_18 h]; omega)
    | 19, _, _ => decide_eq_false (by rw [lk_19 h]; omega)
    | 20, _, _ => decide_eq_false (by rw [lk_20 h]; omega)
    | 21, _, _ => decide_eq_false (by rw [lk_21 h]; omega)
    | 22, _, _ => decide_eq_false (by rw [lk_22 h]; omega)
    | 23, _, _ => decide_eq_false (by rw [lk_23 h]; omega)
    | 24, _, _ => decide_eq_false (by rw [lk_24 h]; omega)
    | 25, _, _ => decide_eq_false (by rw [lk_25 h]; omega)
    | 26, _, _ => decide_eq_false (by rw [lk_26 h]; omega)
    | 27, _, _ => decide_eq_false (by rw [lk_27 h]; omega)
    | 28, _, _ => decide_eq_false (by rw [lk_28 h]; omega)
    | 29, _, _ => decide_eq_false (by rw [lk_29 h]; omega)
    | 30, _, _ => decide_eq_false (by rw [lk_30 h]; omega)
    | 31, _, _ => decide_eq_false (by rw [lk_31 h]; omega)
    | 32, _, _ => decide_eq_false (by rw [lk_32 h]; omega)
    | 33, _, _ => decide_eq_false (by rw [lk_33 h]; omega)
    | 34, _, _ => decide_eq_false (by rw [lk_34 h]; omega)
    | 35, _, _ => decide_eq_false (by rw [lk_35 h]; omega)
    | 36, _, _ => decide_eq_false (by rw [lk_36 h]; omega)
    | 37, _, _ => decide_eq_false (by rw [lk_37 h]; omega)
    | 38, _, _ => decide_eq_false (by rw [lk_38 h]; omega)
    | 39, _, _ => decide_eq_false (by rw [lk_39 h]; omega)
    | 40, _, _ => decide_eq_false (by rw [lk_40 h]; omega)
    | n + 41, hj, _ => absurd hj (by omega)
  have yes : f_if K 16 = true := decide_eq_true (lk_16 h)
  have z : ∀ n, n ≤ 16 → t_n (f_if K) n = 0 := by
    intro n
    induction n with
    | zero => intro _; rfl
    | succ n ih => intro hn; show t_n (f_if K) n + (if f_if K n = true then 1 else 0) = 0; rw [ih (by omega), no n (by omega) (by omega)]; rfl
  have u : ∀ n, n ≤ 23 → t_n (f_if K) (17 + n) = 1 := by
    intro n
    induction n with
    | zero => intro _; show t_n (f_if K) 16 + (if f_if K 16 = true then 1 else 0) = 1; rw [z 16 (by omega), yes]; rfl
    | succ n ih => intro hn; show t_n (f_if K) (17 + n) + (if f_if K (17 + n) = true then 1 else 0) = 1; rw [ih (by omega), no (17 + n) (by omega) (by omega)]; rfl
  exact ⟨z 16 (by omega), u 23 (by omega)⟩
theorem l_P28 (h : lw_T K V A B op s1 s2 rs) : y_P K 16 28 = 6 := by
  obtain ⟨-, -, -, -, -, h1, h2, h3, h4⟩ := id h
  have z : ∀ n, n ≤ 16 → t_n (y_pb K 16) n = 0 := by
    intro n
    induction n with
    | zero => intro _; rfl
    | succ n ih =>
      intro hn
      show t_n (y_pb K 16) n + (if y_pb K 16 n = true then 1 else 0) = 0
      rw [ih (by omega), show y_pb K 16 n = false from decide_eq_false (fun z => by have := z.1; omega)]
      rfl
  have b16 : y_pb K 16 16 = true := decide_eq_true (by rw [show 16 - 1 = 15 from rfl, lk_16 h, lk_15 h]; omega)
  have b17 : y_pb K 16 17 = false := decide_eq_false (by rw [show 17 - 1 = 16 from rfl, lk_17 h, lk_16 h]; omega)
  have b18 : y_pb K 16 18 = true := decide_eq_true (by rw [show 18 - 1 = 17 from rfl, lk_18 h, lk_17 h]; omega)
  have b19 : y_pb K 16 19 = true := decide_eq_true (by rw [show 19 - 1 = 18 from rfl, lk_19 h, lk_18 h]; omega)
  have b20 : y_pb K 16 20 = false := decide_eq_false (by rw [show 20 - 1 = 19 from rfl, lk_20 h, lk_19 h]; omega)
  have b21 : y_pb K 16 21 = false := decide_eq_false (by rw [show 21 - 1 = 20 from rfl, lk_21 h, lk_20 h]; omega)
  have b22 : y_pb K 16 22 = true := decide_eq_true (by rw [show 22 - 1 = 21 from rfl, lk_22 h, lk_21 h]; omega)
  have b23 : y_pb K 16 23 = false := decide_eq_false (by rw [show 23 - 1 = 22 from rfl, lk_23 h, lk_22 h]; omega)
  have b24 : y_pb K 16 24 = false := decide_eq_false (by rw [show 24 - 1 = 23 from rfl, lk_24 h, lk_23 h]; omega)
  have b25 : y_pb K 16 25 = false := decide_eq_false (by rw [show 25 - 1 = 24 from rfl, lk_25 h, lk_24 h]; omega)
  have b26 : y_pb K 16 26 = true := decide_eq_true (by rw [show 26 - 1 = 25 from rfl, lk_26 h, lk_25 h]; omega)
  have b27 : y_pb K 16 27 = true := decide_eq_true (by rw [show 27 - 1 = 26 from rfl, lk_27 h, lk_26 h]; omega)
  show t_n (y_pb K 16) 28 = 6
  have s : ∀ q, t_n (y_pb K 16) (q + 1) = t_n (y_pb K 16) q + (if y_pb K 16 q = true then 1 else 0) := fun _ => rfl
  rw [s 27, b27, s 26, b26, s 25, b25, s 24, b24, s 23, b23, s 22, b22, s 21, b21, s 20, b20, s 19, b19, s 18, b18, s 17, b17, s 16, b16, z 16 (by omega)]
  rfl
/-- names -/
theorem l_ix (h : lw_T K V A B op s1 s2 rs) : y_ix V 120 [3, 9] 0 = 0 ∧ y_ix V 121 [3, 9] 0 = 1 ∧ y_ix V 121 [3] 0 = -1 := by
  obtain ⟨-, ⟨v1, v3, v9, -⟩, -⟩ := h
  simp [y_ix, v3, v9]
/-- the function -/
def lw_D (op s1 s2 vC vD p16 p18 p19 p22 p26 p27 : Int) : q_D := d_if 0 p16 (d_bin op p18 (d_in 0) (d_num vC p19)) (d_bin s1 p22 (d_in 0) (d_in 1)) (d_bin s2 p26 (d_in 1) (d_num vD p27))
def lw_F (A B : Int) (D : q_D) : y_fn := (1, [(3, 0, A), (9, 0, B)], 6, 12, D)
theorem l_yins (h : lw_T K V A B op s1 s2 rs) (n : Nat) : y_ins K V (n + 2) [] 3 = .inr [(3, 0, A), (9, 0, B)] := by
  obtain ⟨-, ⟨v1, v3, v9, -⟩, ⟨v5, v7, v11, v13, -⟩, hA, hB, -⟩ := id h
  have e1 : f_inp K (false, 3) = (false, 8) := li_ok (p := 3) (by decide) (lk_3 h) (lk_4 h) (lk_5 h) (lk_6 h) (lk_7 h)
  have e2 : f_inp K (false, 9) = (false, 14) := li_ok (p := 9) (by decide) (lk_9 h) (lk_10 h) (lk_11 h) (lk_12 h) (lk_13 h)
  have w5 : f_wh K (false, 5) = (false, 6) := lw_ok (by decide) (lk_5 h)
  have w11 : f_wh K (false, 11) = (false, 12) := lw_ok (by decide) (lk_11 h)
  have wh : ∀ (p : Nat) (lo hi v : Int), K p = 2 → V p = v → lo ≤ v → v ≤ hi → y_wh K V p lo hi = .inr v := by
    intro p lo hi v h1 h2 h3 h4
    unfold y_wh
    rw [if_neg (by rw [h1]; decide), h2]
    exact if_pos ⟨h3, h4⟩
  have i1 : y_inp K V [] 3 = .inr [(3, 0, A)] := by
    unfold y_inp
    rw [if_neg (by show ¬ 3 ≤ 0; decide), if_neg (by simp [y_ix]), show 3 + 2 = 5 from rfl, w5, show (false, 6).2 + 1 = 7 from rfl, wh 5 (-20) 20 0 (lk_5 h) v5 (by decide) (by decide)]
    show y_b (y_wh K V 7 0 20) _ = _
    rw [wh 7 0 20 A (lk_7 h) v7 (by omega) (by omega)]
    rfl
  have i2 : y_inp K V [(3, 0, A)] 9 = .inr [(3, 0, A), (9, 0, B)] := by
    unfold y_inp
    rw [if_neg (by show ¬ 3 ≤ 1; decide), if_neg (by simp [y_ix, v3, v9]), show 9 + 2 = 11 from rfl, w11, show (false, 12).2 + 1 = 13 from rfl, wh 11 (-20) 20 0 (lk_11 h) v11 (by decide) (by decide)]
    show y_b (y_wh K V 13 0 20) _ = _
    rw [wh 13 0 20 B (lk_13 h) v13 (by omega) (by omega)]
    rfl
  show y_b (y_inp K V [] 3) (fun ins' => if f_see K f_T (f_inp K (false, 3)) 18 18 then y_ins K V (n + 1) ins' ((f_inp K (false, 3)).2 + 1) else .inr ins') = _
  rw [i1, e1]
  show (if f_see K f_T (false, 8) 18 18 then y_ins K V (n + 1) [(3, 0, A)] 9 else .inr [(3, 0, A)]) = _
  rw [if_pos (ls_yes (by decide) (lk_8 h))]
  show y_b (y_inp K V [(3, 0, A)] 9) (fun ins' => if f_see K f_T (f_inp K (false, 9)) 18 18 then y_ins K V n ins' ((f_inp K (false, 9)).2 + 1) else .inr ins') = _
  rw [i2, e2]
  show (if f_see K f_T (false, 14) 18 18 then y_ins K V n [(3, 0, A), (9, 0, B)] 15 else .inr [(3, 0, A), (9, 0, B)]) = _
  rw [if_neg (ls_no (by rw [lk_14 h]; decide))]
theorem l_yfun (h : lw_T K V A B op s1 s2 rs) : y_fun K V ([], []) 0 = .inr ([lw_F A B (lw_D op s1 s2 (V 19) (V 27) (y_P K 16 16 : Nat) (y_P K 16 18 : Nat) (y_P K 16 19 : Nat) (y_P K 16 22 : Nat) (y_P K 16 26 : Nat) (y_P K 16 27 : Nat))], []) := by
  have vs := h.2.1
  have ix := l_ix h
  have ei : f_ins K f_T (false, 0 + 3) = (false, 14) := l_ins h 1499
  unfold y_fun
  rw [if_neg (by decide), if_neg (by simp [y_ix]), show y_ins K V f_T [] (0 + 3) = _ from l_yins h 1499, ei]
  show (match m_ex K V 66 (y_P K 16) (y_I K) (y_E V [] [(3, 0, A), (9, 0, B)]) 415 6 0 16 [] with
    | Sum.inl e => (Sum.inl e : (Int × Nat) ⊕ y_pr)
    | Sum.inr (l, z) => if 200 < (f_bod K (false, 16)).2 - 16 + z then Sum.inl (4, 0 + 1) else Sum.inr ([] ++ [(0 + 1, [(3, 0, A), (9, 0, B)], y_P K 16 (f_bod K (false, 16)).2, (f_bod K (false, 16)).2 - 16 + z, m_hd l)], [])) = _
  rw [lm_bod h (E := y_E V [] [(3, 0, A), (9, 0, B)]) (by rw [vs.2.2.2.1]; exact ix.1) (by rw [vs.2.2.2.2.1]; exact ix.1) (by rw [vs.2.2.2.2.2.1]; exact ix.2.1) (by rw [vs.2.2.2.2.2.2.1]; exact ix.2.1), le_bod h]
  show (if 200 < 28 - 16 + 0 then _ else _) = _
  rw [if_neg (by decide), l_P28 h, (l_I16 h).1]
  rfl
theorem l_ycls (h : lw_T K V A B op s1 s2 rs) (n : Nat) : y_cls K V [(3, 0, A), (9, 0, B)] (n + 2) [] 0 34 = .inr ([(0, 0), (0, 0)], 2) := by
  obtain ⟨-, -, ⟨v5, v7, v11, v13, v34, v36⟩, hA, hB, -⟩ := id h
  obtain ⟨e1, e2⟩ := l_cel h
  have w1 : f_wh K (false, 34) = (false, 35) := lw_ok (by decide) (lk_34 h)
  have w2 : f_wh K (false, 36) = (false, 37) := lw_ok (by decide) (lk_36 h)
  have c1 : y_cel K V [(3, 0, A), (9, 0, B)] 0 34 = .inr [(0, 0)] := by
    unfold y_cel y_wh
    rw [if_pos (by show 0 < 2; decide), if_neg (by rw [lk_34 h]; decide), if_neg (by rw [lk_34 h]; decide), v34]
    show y_b (if 0 ≤ (0 : Int) ∧ (0 : Int) ≤ A then (Sum.inr 0 : (Int × Nat) ⊕ Int) else Sum.inl (5, 34)) _ = _
    rw [if_pos (by omega), w1]
    exact if_neg (ls_no (by rw [lk_35 h]; decide))
  have c2 : y_cel K V [(3, 0, A), (9, 0, B)] 1 36 = .inr [(0, 0)] := by
    unfold y_cel y_wh
    rw [if_pos (by show 1 < 2; decide), if_neg (by rw [lk_36 h]; decide), if_neg (by rw [lk_36 h]; decide), v36]
    show y_b (if 0 ≤ (0 : Int) ∧ (0 : Int) ≤ B then (Sum.inr 0 : (Int × Nat) ⊕ Int) else Sum.inl (5, 36)) _ = _
    rw [if_pos (by omega), w2]
    exact if_neg (ls_no (by rw [lk_37 h]; decide))
  show y_b (y_cel K V [(3, 0, A), (9, 0, B)] 0 34) (fun l' => if f_see K f_T (f_cel K (false, 34)) 18 18 then y_cls K V [(3, 0, A), (9, 0, B)] (n + 1) ([] ++ l') (0 + 1) ((f_cel K (false, 34)).2 + 1) else .inr ([] ++ l', 0 + 1)) = _
  rw [c1, e1]
  show (if f_see K f_T (false, 35) 18 18 then y_cls K V [(3, 0, A), (9, 0, B)] (n + 1) [(0, 0)] 1 36 else _) = _
  rw [if_pos (ls_yes (by decide) (lk_35 h))]
  show y_b (y_cel K V [(3, 0, A), (9, 0, B)] 1 36) (fun l' => if f_see K f_T (f_cel K (false, 36)) 18 18 then y_cls K V [(3, 0, A), (9, 0, B)] n ([(0, 0)] ++ l') (1 + 1) ((f_cel K (false, 36)).2 + 1) else .inr ([(0, 0)] ++ l', 1 + 1)) = _
  rw [c2, e2]
  show (if f_see K f_T (false, 37) 18 18 then _ else _) = _
  rw [if_neg (ls_no (by rw [lk_37 h]; decide))]
  rfl
/-- the row of the table -/
def lw_R (rs : Int) : y_rw := ([(0, 0), (0, 0)], rs, 0)
theorem l_yrws (h : lw_T K V A B op s1 s2 rs) (n : Nat) : y_rws K V [(3, 0, A), (9, 0, B)] (n + 1) [] 34 = .inr [lw_R rs] := by
  obtain ⟨-, -, -, -, -, -, -, -, hr⟩ := id h
  have er : y_res K V 38 = (rs, 0) := by
    unfold y_res
    rw [lk_38 h, if_neg (by omega)]
    rcases hr with e | e
    · rw [if_pos e, e]
    · rw [if_neg (by omega), e]
  have ec : f_cls K f_T (false, 34) = (false, 37) := l_cls h 1499
  have ro : y_row K V [(3, 0, A), (9, 0, B)] [] 34 = .inr [lw_R rs] := by
    unfold y_row
    rw [if_neg (by show ¬ 12 ≤ 0; decide), show y_cls K V [(3, 0, A), (9, 0, B)] f_T [] 0 34 = _ from l_ycls h 1499, ec]
    show (if (2 : Nat) ≠ 2 then (Sum.inl (6, 34) : (Int × Nat) ⊕ List y_rw) else if 100 < y_ct ([] ++ [([(0, 0), (0, 0)], y_res K V 38)]) then Sum.inl (4, 34) else Sum.inr ([] ++ [([(0, 0), (0, 0)], y_res K V 38)])) = _
    rw [if_neg (by decide), er]
    exact if_neg (by simp [y_ct, y_cs, y_wd])
  show y_b (y_row K V [(3, 0, A), (9, 0, B)] [] 34) (fun rows' => if f_see K f_T (f_row K (false, 34)) 21 21 then y_rws K V [(3, 0, A), (9, 0, B)] n rows' ((f_row K (false, 34)).2 + 1) else .inr rows') = _
  rw [ro, l_row h]
  show (if f_see K f_T (false, 39) 21 21 then _ else _) = _
  rw [if_neg (ls_no (by rw [lk_39 h]; decide))]
/-- the program -/
def lw_pr (A B rs : Int) (D : q_D) : y_pr := ([lw_F A B D], [(30, 0, [lw_R rs])])
theorem l_ytab (h : lw_T K V A B op s1 s2 rs) (D : q_D) : y_tab K V ([lw_F A B D], []) 29 = .inr (lw_pr A B rs D) := by
  obtain ⟨v1, v3, v9, v17, v21, v23, v25, v30, v32⟩ := h.2.1
  have ix : y_ix V (V (29 + 3)) ([lw_F A B D].map (·.1)) 0 = 0 := by
    show y_ix V (V 32) [1] 0 = 0
    simp [y_ix, v1, v32]
  unfold y_tab
  rw [if_neg (by show ¬ 6 ≤ 0; decide), if_neg (by
    show ¬ (0 ≤ y_ix V (V 30) [1] 0 ∨ 0 ≤ y_ix V (V 30) [] 0)
    simp [y_ix, v1, v30]), ix, if_neg (by decide)]
  show y_b (y_rws K V [(3, 0, A), (9, 0, B)] (1500 + 1) [] 34) _ = _
  rw [l_yrws h]
  rfl
theorem l_cmp (h : lw_T K V A B op s1 s2 rs) : ∃ D, (∀ a, ∃ x b, D a (-1) = (x, [(0, b)])) ∧ y_cmp K V = .inr (lw_pr A B rs D) := by
  refine ⟨lw_D op s1 s2 (V 19) (V 27) (y_P K 16 16 : Nat) (y_P K 16 18 : Nat) (y_P K 16 19 : Nat) (y_P K 16 22 : Nat) (y_P K 16 26 : Nat) (y_P K 16 27 : Nat), fun a => ?_, ?_⟩
  · obtain ⟨-, -, -, -, -, hop, h1, h2, -⟩ := id h
    have ev : ∀ (o pl : Int) (X Y : q_D), (∃ x, X a (-1) = (some x, [])) → (∃ y, Y a (-1) = (some y, [])) → (d_bin o pl X Y a (-1)).2 = [] ∧ (22 ≤ o → o ≤ 27 → ∃ z, (d_bin o pl X Y a (-1)).1 = some z) := by
      rintro o pl X Y ⟨x, hx⟩ ⟨y, hy⟩
      unfold d_bin
      rw [hx, hy]
      refine ⟨rfl, fun g1 g2 => ?_⟩
      show ∃ z, t_bin (if ¬ (-1 : Int) = -1 ∧ pl = -1 then t_chg o else o) x y = some z
      rw [if_neg (by omega)]
      unfold t_bin
      rcases (show o = 22 ∨ o = 23 ∨ o = 24 ∨ o = 25 ∨ o = 26 ∨ o = 27 by omega) with rfl | rfl | rfl | rfl | rfl | rfl <;> exact ⟨_, rfl⟩
    have ein : ∀ i, ∃ x, d_in i a (-1) = (some x, []) := fun i => ⟨_, rfl⟩
    have enu : ∀ v pl, ∃ x, d_num v pl a (-1) = (some x, []) := fun v pl => ⟨_, rfl⟩
    obtain ⟨c1, c2⟩ := ev op (y_P K 16 18 : Nat) _ _ (ein 0) (enu (V 19) (y_P K 16 19 : Nat))
    obtain ⟨t1, -⟩ := ev s1 (y_P K 16 22 : Nat) _ _ (ein 0) (ein 1)
    obtain ⟨e1, -⟩ := ev s2 (y_P K 16 26 : Nat) _ _ (ein 1) (enu (V 27) (y_P K 16 27 : Nat))
    obtain ⟨z, hz⟩ := c2 (by omega) (by omega)
    unfold lw_D d_if
    rw [hz, c1, t1, e1]
    dsimp only
    split
    · exact ⟨_, _, rfl⟩
    · exact ⟨_, _, rfl⟩
  · unfold y_cmp
    rw [l_form h, if_neg (by decide)]
    show y_b (y_itm K V ([], []) 0) (fun pr' => if (f_itm K (false, 0)).1 = false ∧ ¬ f_see K f_T (f_itm K (false, 0)) 0 0 then y_its K V 1500 pr' (f_itm K (false, 0)).2 else .inr pr') = _
    obtain ⟨e1, e2⟩ := l_itm h
    rw [show y_itm K V ([], []) 0 = _ from (if_pos (lk_0 h)).trans (l_yfun h), e1]
    show (if (false, 29).1 = false ∧ ¬ f_see K f_T (false, 29) 0 0 then y_its K V (1499 + 1) _ 29 else _) = _
    rw [if_pos ⟨rfl, ls_no (by rw [lk_29 h]; decide)⟩]
    show y_b (y_itm K V _ 29) (fun pr' => if (f_itm K (false, 29)).1 = false ∧ ¬ f_see K f_T (f_itm K (false, 29)) 0 0 then y_its K V 1499 pr' (f_itm K (false, 29)).2 else .inr pr') = _
    rw [show y_itm K V _ 29 = _ from (if_neg (by rw [lk_29 h]; decide)).trans (l_ytab h _), e2]
    show (if (false, 40).1 = false ∧ ¬ f_see K f_T (false, 40) 0 0 then _ else _) = _
    rw [if_neg (fun z => z.2 (ls_yes (by decide) (lk_40 h)))]
end LWC
