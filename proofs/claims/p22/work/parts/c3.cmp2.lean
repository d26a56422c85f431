section LWC
variable {K V : Nat → Int} {A B op s1 s2 rs : Int}
/-! the meaning -/
section LWM
variable {P I : Nat → Nat} {E : q_E}
theorem lm_17 (h : lw_T K V A B op s1 s2 rs) (hx : E.1 (V 17) = 0) (n : Nat) : m_ex K V 66 P I E (n + 30) 6 1 17 [] = .inr ([d_bin op (P 18 : Nat) (d_in 0) (d_num (V 19) (P 19 : Nat))], 0) := by
  obtain ⟨-, -, -, -, -, h1, h2, h3, h4⟩ := id h
  obtain ⟨f17, f19, -⟩ := lg_F h
  rw [h6 (m := n + 29) (by rw [lk_17 h]; decide)]
  have z := hr0 (V := V) (P := P) (I := I) (E := E) (m := n + 17) (d := 1) (X := d_in 0) (Y := d_num (V 19) (P 19 : Nat)) ⟨f17, fun _ _ => h_in (q := 0) f17 (lk_17 h) hx⟩ ⟨f19, fun _ _ => h_num f19 (lk_19 h)⟩ (by rw [lk_18 h]; omega) (by rw [lk_18 h]; omega) (by decide) (lg_S h).1
  rw [show 17 + 1 = 18 from rfl, lk_18 h] at z
  exact z
theorem lm_21 (h : lw_T K V A B op s1 s2 rs) (hx : E.1 (V 21) = 0) (hy : E.1 (V 23) = 1) (n : Nat) : m_ex K V 66 P I E (n + 30) 6 1 21 [] = .inr ([d_bin s1 (P 22 : Nat) (d_in 0) (d_in 1)], 0) := by
  obtain ⟨-, -, -, -, -, h1, h2, h3, h4⟩ := id h
  obtain ⟨-, -, f21, f23, -⟩ := lg_F h
  rw [h6 (m := n + 29) (by rw [lk_21 h]; decide)]
  have z := hz (V := V) (P := P) (I := I) (E := E) (m := n + 17) (d := 1) (gb3 (m := n + 17) f21 f23 (by rw [lk_22 h]; omega) (by rw [lk_22 h]; omega) (by decide) (by rw [lk_24 h]; omega)) (hb3 (m := n + 17) (X := d_in 0) (Y := d_in 1) ⟨f21, fun _ _ => h_in (q := 0) f21 (lk_21 h) hx⟩ ⟨f23, fun _ _ => h_in (q := 1) f23 (lk_23 h) hy⟩ (by rw [lk_22 h]; omega) (by rw [lk_22 h]; omega) (by decide) (by rw [lk_24 h]; omega)) (lg_S h).2.1
  rw [show 21 + 1 = 22 from rfl, lk_22 h] at z
  exact z
theorem lm_25 (h : lw_T K V A B op s1 s2 rs) (hy : E.1 (V 25) = 1) (n : Nat) : m_ex K V 66 P I E (n + 30) 6 1 25 [] = .inr ([d_bin s2 (P 26 : Nat) (d_in 1) (d_num (V 27) (P 27 : Nat))], 0) := by
  obtain ⟨-, -, -, -, -, h1, h2, h3, h4⟩ := id h
  obtain ⟨-, -, -, -, f25, f27⟩ := lg_F h
  rw [h6 (m := n + 29) (by rw [lk_25 h]; decide)]
  have z := hz (V := V) (P := P) (I := I) (E := E) (m := n + 17) (d := 1) (gb3 (m := n + 17) f25 f27 (by rw [lk_26 h]; omega) (by rw [lk_26 h]; omega) (by decide) (by rw [lk_28 h]; omega)) (hb3 (m := n + 17) (X := d_in 1) (Y := d_num (V 27) (P 27 : Nat)) ⟨f25, fun _ _ => h_in (q := 1) f25 (lk_25 h) hy⟩ ⟨f27, fun _ _ => h_num f27 (lk_27 h)⟩ (by rw [lk_26 h]; omega) (by rw [lk_26 h]; omega) (by decide) (by rw [lk_28 h]; omega)) (lg_S h).2.2
  rw [show 25 + 1 = 26 from rfl, lk_26 h] at z
  exact z
theorem lm_bod (h : lw_T K V A B op s1 s2 rs) (hx : E.1 (V 17) = 0) (hx2 : E.1 (V 21) = 0) (hy : E.1 (V 23) = 1) (hy2 : E.1 (V 25) = 1) : m_ex K V 66 P I E 415 6 0 16 [] = .inr ([d_if (I 16 : Nat) (P 16 : Nat) (d_bin op (P 18 : Nat) (d_in 0) (d_num (V 19) (P 19 : Nat))) (d_bin s1 (P 22 : Nat) (d_in 0) (d_in 1)) (d_bin s2 (P 26 : Nat) (d_in 1) (d_num (V 27) (P 27 : Nat)))], 0) := by
  show m_ex K V 66 P I E (414 + 1) 6 0 16 [] = _
  rw [m_ex_6, if_pos ⟨rfl, by decide, by rw [lk_16 h]; decide, by rw [lk_16 h]; decide⟩, show (414 : Nat) = 384 + 30 from rfl, show 0 + 1 = 1 from rfl, show 16 + 1 = 17 from rfl, le_17 h, show (false, 20).2 + 1 = 21 from rfl, le_21 h, show (false, 24).2 + 1 = 25 from rfl, lm_17 h hx, lm_21 h hx2 hy, lm_25 h hy2]
  rfl
end LWM
end LWC
