theorem k_l_0 : k_l 0 = [45] := by decide +kernel
theorem k_l_1 : k_l 1 = [32, 61, 32] := by decide +kernel
theorem k_l_2 : k_l 2 = [32, 60, 62, 32] := by decide +kernel
theorem k_l_3 : k_l 3 = [32, 60, 32] := by decide +kernel
theorem k_l_4 : k_l 4 = [32, 60, 61, 32] := by decide +kernel
theorem k_l_5 : k_l 5 = [32, 62, 32] := by decide +kernel
theorem k_l_6 : k_l 6 = [32, 62, 61, 32] := by decide +kernel
theorem k_l_7 : k_l 7 = [32, 43, 32] := by decide +kernel
theorem k_l_8 : k_l 8 = [32, 45, 32] := by decide +kernel
theorem k_l_9 : k_l 9 = [32, 42, 32] := by decide +kernel
theorem k_l_10 : k_l 10 = [32, 47, 32] := by decide +kernel
theorem k_l_11 : k_l 11 = [32, 37, 32] := by decide +kernel
theorem k_l_12 : k_l 12 = [102, 117, 110, 32, 102, 32, 40, 120, 32, 105, 110, 32, 48, 32, 46, 46, 32] := by decide +kernel
theorem k_l_13 : k_l 13 = [44, 32, 121, 32, 105, 110, 32, 48, 32, 46, 46, 32] := by decide +kernel
theorem k_l_14 : k_l 14 = [41, 32, 61, 32, 105, 102, 32, 120] := by decide +kernel
theorem k_l_15 : k_l 15 = [32, 116, 104, 101, 110, 32, 120] := by decide +kernel
theorem k_l_16 : k_l 16 = [121, 32, 101, 108, 115, 101, 32, 121] := by decide +kernel
theorem k_l_17 : k_l 17 = [59, 32, 116, 97, 98, 108, 101, 32, 116, 32, 111, 102, 32, 102, 58, 32, 48, 44, 32, 48, 58, 32] := by decide +kernel
theorem k_l_18 : k_l 18 = [97, 110, 121, 59] := by decide +kernel
theorem k_l_19 : k_l 19 = [101, 114, 114, 111, 114, 59] := by decide +kernel
/-- the law's text -/
def lw_l (A B C E : Int) (op s1 s2 rs : Nat) : List Int := k_l 12 ++ [48 + A] ++ k_l 13 ++ [48 + B] ++ k_l 14 ++ k_l op ++ [48 + C] ++ k_l 15 ++ k_l s1 ++ k_l 16 ++ k_l s2 ++ [48 + E] ++ k_l 17 ++ k_l rs
theorem sg_op : xsg 61 32 22 0 ∧ xsg 60 62 23 1 ∧ xsg 60 32 24 0 ∧ xsg 60 61 25 1 ∧ xsg 62 32 26 0 ∧ xsg 62 61 27 1 := by unfold xsg; decide
/-- the byte of a sign -/
def sg_c (s : Nat) : Int := if s = 7 then 43 else if s = 8 then 45 else if s = 9 then 42 else if s = 10 then 47 else 37
theorem sg_s {s : Nat} (h0 : 7 ≤ s) (h1 : s ≤ 11) : xsg (sg_c s) 32 (21 + (s : Int)) 0 ∧ k_l s = [32, sg_c s, 32] ∧ (21 + (s : Int) = 28 ∨ 21 + (s : Int) = 29 ∨ 21 + (s : Int) = 30 ∨ 21 + (s : Int) = 31 ∨ 21 + (s : Int) = 32) := by
  refine ⟨?_, ?_, by omega⟩
  · rcases (show s = 7 ∨ s = 8 ∨ s = 9 ∨ s = 10 ∨ s = 11 by omega) with rfl | rfl | rfl | rfl | rfl <;> (unfold xsg; decide)
  · rcases (show s = 7 ∨ s = 8 ∨ s = 9 ∨ s = 10 ∨ s = 11 by omega) with rfl | rfl | rfl | rfl | rfl
    · exact k_l_7
    · exact k_l_8
    · exact k_l_9
    · exact k_l_10
    · exact k_l_11
set_option maxRecDepth 20000 in
theorem lw_l_1a {A B C E : Int} {s1 s2 : Nat} (h1 : 7 ≤ s1 ∧ s1 ≤ 11) (h2 : 7 ≤ s2 ∧ s2 ≤ 11) : lw_l A B C E 1 s1 s2 18 = xt_1a A B C E 61 (sg_c s1) (sg_c s2) := by
  unfold lw_l xt_1a
  rw [(sg_s h1.1 h1.2).2.1, (sg_s h2.1 h2.2).2.1, k_l_12, k_l_13, k_l_14, k_l_15, k_l_16, k_l_17, k_l_1, k_l_18]
  simp only [List.cons_append, List.nil_append, List.append_assoc]
set_option maxRecDepth 20000 in
theorem lw_l_1e {A B C E : Int} {s1 s2 : Nat} (h1 : 7 ≤ s1 ∧ s1 ≤ 11) (h2 : 7 ≤ s2 ∧ s2 ≤ 11) : lw_l A B C E 1 s1 s2 19 = xt_1e A B C E 61 (sg_c s1) (sg_c s2) := by
  unfold lw_l xt_1e
  rw [(sg_s h1.1 h1.2).2.1, (sg_s h2.1 h2.2).2.1, k_l_12, k_l_13, k_l_14, k_l_15, k_l_16, k_l_17, k_l_1, k_l_19]
  simp only [List.cons_append, List.nil_append, List.append_assoc]
set_option maxRecDepth 20000 in
theorem lw_l_2a {A B C E : Int} {s1 s2 : Nat} (h1 : 7 ≤ s1 ∧ s1 ≤ 11) (h2 : 7 ≤ s2 ∧ s2 ≤ 11) : lw_l A B C E 2 s1 s2 18 = xt_2a A B C E 60 62 (sg_c s1) (sg_c s2) := by
  unfold lw_l xt_2a
  rw [(sg_s h1.1 h1.2).2.1, (sg_s h2.1 h2.2).2.1, k_l_12, k_l_13, k_l_14, k_l_15, k_l_16, k_l_17, k_l_2, k_l_18]
  simp only [List.cons_append, List.nil_append, List.append_assoc]
set_option maxRecDepth 20000 in
theorem lw_l_2e {A B C E : Int} {s1 s2 : Nat} (h1 : 7 ≤ s1 ∧ s1 ≤ 11) (h2 : 7 ≤ s2 ∧ s2 ≤ 11) : lw_l A B C E 2 s1 s2 19 = xt_2e A B C E 60 62 (sg_c s1) (sg_c s2) := by
  unfold lw_l xt_2e
  rw [(sg_s h1.1 h1.2).2.1, (sg_s h2.1 h2.2).2.1, k_l_12, k_l_13, k_l_14, k_l_15, k_l_16, k_l_17, k_l_2, k_l_19]
  simp only [List.cons_append, List.nil_append, List.append_assoc]
set_option maxRecDepth 20000 in
theorem lw_l_3a {A B C E : Int} {s1 s2 : Nat} (h1 : 7 ≤ s1 ∧ s1 ≤ 11) (h2 : 7 ≤ s2 ∧ s2 ≤ 11) : lw_l A B C E 3 s1 s2 18 = xt_1a A B C E 60 (sg_c s1) (sg_c s2) := by
  unfold lw_l xt_1a
  rw [(sg_s h1.1 h1.2).2.1, (sg_s h2.1 h2.2).2.1, k_l_12, k_l_13, k_l_14, k_l_15, k_l_16, k_l_17, k_l_3, k_l_18]
  simp only [List.cons_append, List.nil_append, List.append_assoc]
set_option maxRecDepth 20000 in
theorem lw_l_3e {A B C E : Int} {s1 s2 : Nat} (h1 : 7 ≤ s1 ∧ s1 ≤ 11) (h2 : 7 ≤ s2 ∧ s2 ≤ 11) : lw_l A B C E 3 s1 s2 19 = xt_1e A B C E 60 (sg_c s1) (sg_c s2) := by
  unfold lw_l xt_1e
  rw [(sg_s h1.1 h1.2).2.1, (sg_s h2.1 h2.2).2.1, k_l_12, k_l_13, k_l_14, k_l_15, k_l_16, k_l_17, k_l_3, k_l_19]
  simp only [List.cons_append, List.nil_append, List.append_assoc]
set_option maxRecDepth 20000 in
theorem lw_l_4a {A B C E : Int} {s1 s2 : Nat} (h1 : 7 ≤ s1 ∧ s1 ≤ 11) (h2 : 7 ≤ s2 ∧ s2 ≤ 11) : lw_l A B C E 4 s1 s2 18 = xt_2a A B C E 60 61 (sg_c s1) (sg_c s2) := by
  unfold lw_l xt_2a
  rw [(sg_s h1.1 h1.2).2.1, (sg_s h2.1 h2.2).2.1, k_l_12, k_l_13, k_l_14, k_l_15, k_l_16, k_l_17, k_l_4, k_l_18]
  simp only [List.cons_append, List.nil_append, List.append_assoc]
set_option maxRecDepth 20000 in
theorem lw_l_4e {A B C E : Int} {s1 s2 : Nat} (h1 : 7 ≤ s1 ∧ s1 ≤ 11) (h2 : 7 ≤ s2 ∧ s2 ≤ 11) : lw_l A B C E 4 s1 s2 19 = xt_2e A B C E 60 61 (sg_c s1) (sg_c s2) := by
  unfold lw_l xt_2e
  rw [(sg_s h1.1 h1.2).2.1, (sg_s h2.1 h2.2).2.1, k_l_12, k_l_13, k_l_14, k_l_15, k_l_16, k_l_17, k_l_4, k_l_19]
  simp only [List.cons_append, List.nil_append, List.append_assoc]
set_option maxRecDepth 20000 in
theorem lw_l_5a {A B C E : Int} {s1 s2 : Nat} (h1 : 7 ≤ s1 ∧ s1 ≤ 11) (h2 : 7 ≤ s2 ∧ s2 ≤ 11) : lw_l A B C E 5 s1 s2 18 = xt_1a A B C E 62 (sg_c s1) (sg_c s2) := by
  unfold lw_l xt_1a
  rw [(sg_s h1.1 h1.2).2.1, (sg_s h2.1 h2.2).2.1, k_l_12, k_l_13, k_l_14, k_l_15, k_l_16, k_l_17, k_l_5, k_l_18]
  simp only [List.cons_append, List.nil_append, List.append_assoc]
set_option maxRecDepth 20000 in
theorem lw_l_5e {A B C E : Int} {s1 s2 : Nat} (h1 : 7 ≤ s1 ∧ s1 ≤ 11) (h2 : 7 ≤ s2 ∧ s2 ≤ 11) : lw_l A B C E 5 s1 s2 19 = xt_1e A B C E 62 (sg_c s1) (sg_c s2) := by
  unfold lw_l xt_1e
  rw [(sg_s h1.1 h1.2).2.1, (sg_s h2.1 h2.2).2.1, k_l_12, k_l_13, k_l_14, k_l_15, k_l_16, k_l_17, k_l_5, k_l_19]
  simp only [List.cons_append, List.nil_append, List.append_assoc]
set_option maxRecDepth 20000 in
theorem lw_l_6a {A B C E : Int} {s1 s2 : Nat} (h1 : 7 ≤ s1 ∧ s1 ≤ 11) (h2 : 7 ≤ s2 ∧ s2 ≤ 11) : lw_l A B C E 6 s1 s2 18 = xt_2a A B C E 62 61 (sg_c s1) (sg_c s2) := by
  unfold lw_l xt_2a
  rw [(sg_s h1.1 h1.2).2.1, (sg_s h2.1 h2.2).2.1, k_l_12, k_l_13, k_l_14, k_l_15, k_l_16, k_l_17, k_l_6, k_l_18]
  simp only [List.cons_append, List.nil_append, List.append_assoc]
set_option maxRecDepth 20000 in
theorem lw_l_6e {A B C E : Int} {s1 s2 : Nat} (h1 : 7 ≤ s1 ∧ s1 ≤ 11) (h2 : 7 ≤ s2 ∧ s2 ≤ 11) : lw_l A B C E 6 s1 s2 19 = xt_2e A B C E 62 61 (sg_c s1) (sg_c s2) := by
  unfold lw_l xt_2e
  rw [(sg_s h1.1 h1.2).2.1, (sg_s h2.1 h2.2).2.1, k_l_12, k_l_13, k_l_14, k_l_15, k_l_16, k_l_17, k_l_6, k_l_19]
  simp only [List.cons_append, List.nil_append, List.append_assoc]
theorem lx_all {A B C E : Int} {op s1 s2 rs : Nat} (hA : 1 ≤ A ∧ A ≤ 4) (hB : 1 ≤ B ∧ B ≤ 3) (hC : 0 ≤ C ∧ C ≤ 9) (hE : 0 ≤ E ∧ E ≤ 9) (h0 : 1 ≤ op) (h6 : op ≤ 6) (h1 : 7 ≤ s1 ∧ s1 ≤ 11) (h2 : 7 ≤ s2 ∧ s2 ≤ 11) (hr : rs = 18 ∨ rs = 19) : ∃ o r : Int, lw_T (t_K (xb (lw_l A B C E op s1 s2 rs))) (t_V (xb (lw_l A B C E op s1 s2 rs))) A B o (21 + (s1 : Int)) (21 + (s2 : Int)) r := by
  obtain ⟨g1, -, o1⟩ := sg_s h1.1 h1.2
  obtain ⟨g2, -, o2⟩ := sg_s h2.1 h2.2
  obtain ⟨q1, q2, q3, q4, q5, q6⟩ := sg_op
  rcases hr with rfl | rfl
  · rcases (show op = 1 ∨ op = 2 ∨ op = 3 ∨ op = 4 ∨ op = 5 ∨ op = 6 by omega) with rfl | rfl | rfl | rfl | rfl | rfl
    · rw [lw_l_1a h1 h2]; exact ⟨_, _, lx_1a hA hB hC hE q1 g1 g2 (by decide) o1 o2⟩
    · rw [lw_l_2a h1 h2]; exact ⟨_, _, lx_2a hA hB hC hE q2 g1 g2 (by decide) o1 o2⟩
    · rw [lw_l_3a h1 h2]; exact ⟨_, _, lx_1a hA hB hC hE q3 g1 g2 (by decide) o1 o2⟩
    · rw [lw_l_4a h1 h2]; exact ⟨_, _, lx_2a hA hB hC hE q4 g1 g2 (by decide) o1 o2⟩
    · rw [lw_l_5a h1 h2]; exact ⟨_, _, lx_1a hA hB hC hE q5 g1 g2 (by decide) o1 o2⟩
    · rw [lw_l_6a h1 h2]; exact ⟨_, _, lx_2a hA hB hC hE q6 g1 g2 (by decide) o1 o2⟩
  · rcases (show op = 1 ∨ op = 2 ∨ op = 3 ∨ op = 4 ∨ op = 5 ∨ op = 6 by omega) with rfl | rfl | rfl | rfl | rfl | rfl
    · rw [lw_l_1e h1 h2]; exact ⟨_, _, lx_1e hA hB hC hE q1 g1 g2 (by decide) o1 o2⟩
    · rw [lw_l_2e h1 h2]; exact ⟨_, _, lx_2e hA hB hC hE q2 g1 g2 (by decide) o1 o2⟩
    · rw [lw_l_3e h1 h2]; exact ⟨_, _, lx_1e hA hB hC hE q3 g1 g2 (by decide) o1 o2⟩
    · rw [lw_l_4e h1 h2]; exact ⟨_, _, lx_2e hA hB hC hE q4 g1 g2 (by decide) o1 o2⟩
    · rw [lw_l_5e h1 h2]; exact ⟨_, _, lx_1e hA hB hC hE q5 g1 g2 (by decide) o1 o2⟩
    · rw [lw_l_6e h1 h2]; exact ⟨_, _, lx_2e hA hB hC hE q6 g1 g2 (by decide) o1 o2⟩
