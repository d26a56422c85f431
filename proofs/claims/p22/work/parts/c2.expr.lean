/-! ===== small expressions: their form and their meaning ===== -/
section GE
variable {K V : Nat → Int} {L : Nat} {P I : Nat → Nat} {E : q_E} {n m u d p q : Nat} {D X Y : q_D}
theorem g_stop (h7 : 7 ≤ u) (h11 : u ≤ 11) (h : K p < f_lo u ∨ f_hi u < K p) : f_ex K L (m + 1) u d (false, p) = (false, p) := by
  rw [f_ex_lp h7 h11]
  exact if_neg (fun z => by have z1 : f_lo u ≤ K p := z.2.2.1; have z2 : K p ≤ f_hi u := z.2.2.2; omega)
theorem h_stop {acc : List q_D} (h7 : 7 ≤ u) (h11 : u ≤ 11) (h : K p < f_lo u ∨ f_hi u < K p) : m_ex K V L P I E (m + 1) u d p acc = .inr (acc, 0) := by
  rw [m_ex_lp h7 h11]
  exact if_neg (fun z => by have z1 : f_lo u ≤ K p := z.2.2.1; have z2 : K p ≤ f_hi u := z.2.2.2; omega)
theorem g_go (h7 : 7 ≤ u) (h11 : u ≤ 11) (h9 : u ≠ 9) (h : f_lo u ≤ K p) (h' : K p ≤ f_hi u) (hp : p < L) : f_ex K L (m + 1) u d (false, p) = f_ex K L m u d (f_ex K L m (u - 6) d (false, p + 1)) := by
  rw [f_ex_lp h7 h11, if_pos ⟨rfl, hp, h, h'⟩, if_neg h9]
theorem g_rel (h : 22 ≤ K p) (h' : K p ≤ 27) (hp : p < L) : f_ex K L (m + 1) 9 d (false, p) = f_ex K L m 3 d (false, p + 1) := by
  rw [f_ex_lp (by decide) (by decide), if_pos ⟨rfl, hp, h, h'⟩, if_pos rfl]
/-- a factor of one token -/
def gF (K : Nat → Int) (L p : Nat) : Prop := (K p = 2 ∨ K p = 3) ∧ K (p + 1) ≠ 16 ∧ p < L
theorem g_fac (h : gF K L p) : f_ex K L (m + 1) 5 d (false, p) = (false, p + 1) := by
  obtain ⟨h1, h2, h3⟩ := h
  rw [f_ex_5]
  rcases h1 with e | e
  · rw [if_pos ⟨rfl, h3, by rw [e]; decide, by rw [e]; decide⟩]
  · rw [if_neg (fun z => by have z2 : K p ≤ 2 := z.2.2.2; omega), if_pos ⟨rfl, h3, by rw [e]; decide, by rw [e]; decide⟩]
    exact if_neg (fun z => h2 (Int.le_antisymm z.2.2.2 z.2.2.1))
theorem h_in (h : gF K L p) (h3 : K p = 3) (hE : E.1 (V p) = (q : Int)) : m_ex K V L P I E (m + 1) 5 d p [] = .inr ([d_in q], 0) := by
  obtain ⟨h1, h2, hp⟩ := h
  rw [m_ex_5, if_neg (fun z => by have z2 : K p ≤ 2 := z.2.2.2; omega), if_pos ⟨rfl, hp, by rw [h3]; decide, by rw [h3]; decide⟩, if_neg (fun z => h2 (Int.le_antisymm z.2.2.2 z.2.2.1)), if_neg (by omega), hE]
  rfl
theorem h_num (h : gF K L p) (h2 : K p = 2) : m_ex K V L P I E (m + 1) 5 d p [] = .inr ([d_num (V p) (P p : Nat)], 0) := by
  rw [m_ex_5, if_pos ⟨rfl, h.2.2, by rw [h2]; decide, by rw [h2]; decide⟩]
/-- what a factor means -/
def hF (K V : Nat → Int) (L : Nat) (P I : Nat → Nat) (E : q_E) (p : Nat) (D : q_D) : Prop := gF K L p ∧ ∀ m d, m_ex K V L P I E (m + 1) 5 d p [] = .inr ([D], 0)
theorem gu4 (h : gF K L p) (s : K (p + 1) < 30 ∨ 32 < K (p + 1)) : f_ex K L (m + 2) 4 d (false, p) = (false, p + 1) := by
  rw [f_ex_lv (u := 4) (n := m + 1) (by decide), g_fac h]
  exact g_stop (by decide) (by decide) s
theorem gu3 (h : gF K L p) (s : K (p + 1) < 28 ∨ 32 < K (p + 1)) : f_ex K L (m + 3) 3 d (false, p) = (false, p + 1) := by
  rw [f_ex_lv (u := 3) (n := m + 2) (by decide), gu4 h (by omega)]
  exact g_stop (by decide) (by decide) (by show K (p + 1) < 28 ∨ (29 : Int) < K (p + 1); exact s.imp (fun z => z) (fun z => by omega))
theorem hu4 (h : hF K V L P I E p D) (s : K (p + 1) < 30 ∨ 32 < K (p + 1)) : m_ex K V L P I E (m + 2) 4 d p [] = .inr ([D], 0) := by
  rw [m_ex_lv (u := 4) (n := m + 1) (by decide), h.2]
  show m_add 0 (m_ex K V L P I E (m + 1) 11 d (f_ex K L (m + 1) 5 d (false, p)).2 [D]) = _
  rw [g_fac h.1, h_stop (by decide) (by decide) s]
  rfl
theorem hu3 (h : hF K V L P I E p D) (s : K (p + 1) < 28 ∨ 32 < K (p + 1)) : m_ex K V L P I E (m + 3) 3 d p [] = .inr ([D], 0) := by
  rw [m_ex_lv (u := 3) (n := m + 2) (by decide), hu4 h (by omega)]
  show m_add 0 (m_ex K V L P I E (m + 2) 10 d (f_ex K L (m + 2) 4 d (false, p)).2 [D]) = _
  rw [gu4 h.1 (by omega), h_stop (by decide) (by decide) (by show K (p + 1) < 28 ∨ (29 : Int) < K (p + 1); exact s.imp (fun z => z) (fun z => by omega))]
  rfl
/-- two factors and a sign -/
theorem gb3 (h1 : gF K L p) (h2 : gF K L (p + 2)) (a : 28 ≤ K (p + 1)) (b : K (p + 1) ≤ 32) (hq : p + 1 < L) (s : K (p + 3) < 28 ∨ 32 < K (p + 3)) : f_ex K L (m + 9) 3 d (false, p) = (false, p + 3) := by
  have s' : K (p + 2 + 1) < 28 ∨ 32 < K (p + 2 + 1) := s
  rw [f_ex_lv (u := 3) (n := m + 8) (by decide)]
  by_cases c : K (p + 1) < 30
  · rw [gu4 (m := m + 6) h1 (Or.inl c), show 7 + 3 = 10 from rfl, g_go (m := m + 7) (by decide) (by decide) (by decide) a (by show K (p + 1) ≤ (29 : Int); omega) hq, show 10 - 6 = 4 from rfl, gu4 (m := m + 5) h2 (by omega)]
    exact g_stop (by decide) (by decide) (by show K (p + 3) < 28 ∨ (29 : Int) < K (p + 3); exact s.imp (fun z => z) (fun z => by omega))
  · rw [show 3 + 1 = 4 from rfl, f_ex_lv (u := 4) (n := m + 7) (by decide), g_fac h1, show 7 + 4 = 11 from rfl, g_go (m := m + 6) (by decide) (by decide) (by decide) (by show (30 : Int) ≤ K (p + 1); omega) b hq, show 11 - 6 = 5 from rfl, g_fac (m := m + 5) h2, g_stop (m := m + 5) (by decide) (by decide) (by show K (p + 2 + 1) < (30 : Int) ∨ (32 : Int) < K (p + 2 + 1); omega)]
    exact g_stop (by decide) (by decide) (by show K (p + 3) < 28 ∨ (29 : Int) < K (p + 3); exact s.imp (fun z => z) (fun z => by omega))
theorem hb3 (h1 : hF K V L P I E p X) (h2 : hF K V L P I E (p + 2) Y) (a : 28 ≤ K (p + 1)) (b : K (p + 1) ≤ 32) (hq : p + 1 < L) (s : K (p + 3) < 28 ∨ 32 < K (p + 3)) : m_ex K V L P I E (m + 9) 3 d p [] = .inr ([d_bin (K (p + 1)) (P (p + 1) : Nat) X Y], 0) := by
  have s' : K (p + 2 + 1) < 28 ∨ 32 < K (p + 2 + 1) := s
  rw [m_ex_lv (u := 3) (n := m + 8) (by decide)]
  by_cases c : K (p + 1) < 30
  · rw [hu4 (m := m + 6) h1 (Or.inl c)]
    show m_add 0 (m_ex K V L P I E (m + 8) 10 d (f_ex K L (m + 8) 4 d (false, p)).2 [X]) = _
    rw [gu4 (m := m + 6) h1.1 (Or.inl c), m_ex_lp (n := m + 7) (by decide) (by decide), if_pos ⟨rfl, hq, a, by show K (p + 1) ≤ (29 : Int); omega⟩]
    show m_add 0 (m_bind (m_ex K V L P I E (m + 7) 4 d (p + 2) []) _) = _
    rw [hu4 (m := m + 5) h2 (by omega)]
    show m_add 0 (m_add 0 (m_ex K V L P I E (m + 7) 10 d (f_ex K L (m + 7) 4 d (false, p + 2)).2 [d_bin (K (p + 1)) (P (p + 1) : Nat) X Y])) = _
    rw [gu4 (m := m + 5) h2.1 (by omega), h_stop (m := m + 6) (by decide) (by decide) (by show K (p + 3) < 28 ∨ (29 : Int) < K (p + 3); exact s.imp (fun z => z) (fun z => by omega))]
    rfl
  · rw [show 3 + 1 = 4 from rfl, m_ex_lv (u := 4) (n := m + 7) (by decide), h1.2]
    show m_bind (m_add 0 (m_ex K V L P I E (m + 7) 11 d (f_ex K L (m + 7) 5 d (false, p)).2 [X])) _ = _
    rw [g_fac h1.1, m_ex_lp (n := m + 6) (by decide) (by decide), if_pos ⟨rfl, hq, by show (30 : Int) ≤ K (p + 1); omega, b⟩]
    show m_bind (m_add 0 (m_bind (m_ex K V L P I E (m + 6) 5 d (p + 2) []) _)) _ = _
    rw [h2.2]
    show m_bind (m_add 0 (m_add 0 (m_ex K V L P I E (m + 6) 11 d (f_ex K L (m + 6) 5 d (false, p + 2)).2 [d_bin (K (p + 1)) (P (p + 1) : Nat) X Y]))) _ = _
    rw [g_fac h2.1, h_stop (m := m + 5) (by decide) (by decide) (by show K (p + 2 + 1) < (30 : Int) ∨ (32 : Int) < K (p + 2 + 1); omega)]
    show m_add 0 (m_ex K V L P I E (m + 8) 10 d (f_ex K L (m + 8) 4 d (false, p)).2 [d_bin (K (p + 1)) (P (p + 1) : Nat) X Y]) = _
    have e : f_ex K L (m + 8) 4 d (false, p) = (false, p + 3) := by
      rw [f_ex_lv (u := 4) (n := m + 7) (by decide), g_fac h1.1, show 7 + 4 = 11 from rfl, g_go (m := m + 6) (by decide) (by decide) (by decide) (by show (30 : Int) ≤ K (p + 1); omega) b hq, show 11 - 6 = 5 from rfl, g_fac (m := m + 5) h2.1, g_stop (m := m + 5) (by decide) (by decide) (by show K (p + 2 + 1) < (30 : Int) ∨ (32 : Int) < K (p + 2 + 1); omega)]
    rw [e, h_stop (m := m + 7) (by decide) (by decide) (by show K (p + 3) < 28 ∨ (29 : Int) < K (p + 3); exact s.imp (fun z => z) (fun z => by omega))]
    rfl
/-- what stops every level -/
def gS (K : Nat → Int) (q : Nat) : Prop := K q < 9 ∨ (10 < K q ∧ K q < 22) ∨ 32 < K q
/-- up to the whole -/
theorem gz (h : f_ex K L (m + 9) 3 d (false, p) = (false, q)) (s : gS K q) : f_ex K L (m + 12) 0 d (false, p) = (false, q) := by
  unfold gS at s
  rw [f_ex_lv (u := 0) (n := m + 11) (by decide), show 0 + 1 = 1 from rfl, f_ex_lv (u := 1) (n := m + 10) (by decide), show 1 + 1 = 2 from rfl, f_ex_lv (u := 2) (n := m + 9) (by decide), show 2 + 1 = 3 from rfl, h, g_stop (m := m + 8) (by decide) (by decide) (by show K (q) < (22 : Int) ∨ (27 : Int) < K (q); omega), g_stop (m := m + 9) (by decide) (by decide) (by show K (q) < (9 : Int) ∨ (9 : Int) < K (q); omega)]
  exact g_stop (by decide) (by decide) (by show K (q) < (10 : Int) ∨ (10 : Int) < K (q); omega)
theorem hz (h : f_ex K L (m + 9) 3 d (false, p) = (false, q)) (hm : m_ex K V L P I E (m + 9) 3 d p [] = .inr ([D], 0)) (s : gS K q) : m_ex K V L P I E (m + 12) 0 d p [] = .inr ([D], 0) := by
  unfold gS at s
  have f2 : f_ex K L (m + 10) 2 d (false, p) = (false, q) := by
    rw [f_ex_lv (u := 2) (n := m + 9) (by decide), show 2 + 1 = 3 from rfl, h]
    exact g_stop (by decide) (by decide) (by show K (q) < (22 : Int) ∨ (27 : Int) < K (q); omega)
  have f1 : f_ex K L (m + 11) 1 d (false, p) = (false, q) := by
    rw [f_ex_lv (u := 1) (n := m + 10) (by decide), show 1 + 1 = 2 from rfl, f2]
    exact g_stop (by decide) (by decide) (by show K (q) < (9 : Int) ∨ (9 : Int) < K (q); omega)
  have m2 : m_ex K V L P I E (m + 10) 2 d p [] = .inr ([D], 0) := by
    rw [m_ex_lv (u := 2) (n := m + 9) (by decide), show 2 + 1 = 3 from rfl, hm]
    show m_add 0 (m_ex K V L P I E (m + 9) 9 d (f_ex K L (m + 9) 3 d (false, p)).2 [D]) = _
    rw [h, h_stop (m := m + 8) (by decide) (by decide) (by show K (q) < (22 : Int) ∨ (27 : Int) < K (q); omega)]
    rfl
  have m1 : m_ex K V L P I E (m + 11) 1 d p [] = .inr ([D], 0) := by
    rw [m_ex_lv (u := 1) (n := m + 10) (by decide), show 1 + 1 = 2 from rfl, m2]
    show m_add 0 (m_ex K V L P I E (m + 10) 8 d (f_ex K L (m + 10) 2 d (false, p)).2 [D]) = _
    rw [f2, h_stop (m := m + 9) (by decide) (by decide) (by show K (q) < (9 : Int) ∨ (9 : Int) < K (q); omega)]
    rfl
  rw [m_ex_lv (u := 0) (n := m + 11) (by decide), show 0 + 1 = 1 from rfl, m1]
  show m_add 0 (m_ex K V L P I E (m + 11) 7 d (f_ex K L (m + 11) 1 d (false, p)).2 [D]) = _
  rw [f1, h_stop (m := m + 10) (by decide) (by decide) (by show K (q) < (10 : Int) ∨ (10 : Int) < K (q); omega)]
  rfl
/-- two factors compared -/
theorem gr0 (h1 : gF K L p) (h2 : gF K L (p + 2)) (a : 22 ≤ K (p + 1)) (b : K (p + 1) ≤ 27) (hq : p + 1 < L) (s : gS K (p + 3)) : f_ex K L (m + 12) 0 d (false, p) = (false, p + 3) := by
  unfold gS at s
  have s' : K (p + 2 + 1) < 9 ∨ (10 < K (p + 2 + 1) ∧ K (p + 2 + 1) < 22) ∨ 32 < K (p + 2 + 1) := s
  rw [f_ex_lv (u := 0) (n := m + 11) (by decide), show 0 + 1 = 1 from rfl, f_ex_lv (u := 1) (n := m + 10) (by decide), show 1 + 1 = 2 from rfl, f_ex_lv (u := 2) (n := m + 9) (by decide), show 2 + 1 = 3 from rfl, gu3 (m := m + 6) h1 (by omega), show 7 + 2 = 9 from rfl, g_rel (m := m + 8) a b hq, gu3 (m := m + 5) h2 (by omega), g_stop (m := m + 9) (by decide) (by decide) (by show K (p + 3) < (9 : Int) ∨ (9 : Int) < K (p + 3); omega)]
  exact g_stop (by decide) (by decide) (by show K (p + 3) < (10 : Int) ∨ (10 : Int) < K (p + 3); omega)
theorem hr0 (h1 : hF K V L P I E p X) (h2 : hF K V L P I E (p + 2) Y) (a : 22 ≤ K (p + 1)) (b : K (p + 1) ≤ 27) (hq : p + 1 < L) (s : gS K (p + 3)) : m_ex K V L P I E (m + 12) 0 d p [] = .inr ([d_bin (K (p + 1)) (P (p + 1) : Nat) X Y], 0) := by
  unfold gS at s
  have s' : K (p + 2 + 1) < 9 ∨ (10 < K (p + 2 + 1) ∧ K (p + 2 + 1) < 22) ∨ 32 < K (p + 2 + 1) := s
  have f2 : f_ex K L (m + 10) 2 d (false, p) = (false, p + 3) := by
    rw [f_ex_lv (u := 2) (n := m + 9) (by decide), show 2 + 1 = 3 from rfl, gu3 (m := m + 6) h1.1 (by omega), show 7 + 2 = 9 from rfl, g_rel (m := m + 8) a b hq, gu3 (m := m + 5) h2.1 (by omega)]
  have f1 : f_ex K L (m + 11) 1 d (false, p) = (false, p + 3) := by
    rw [f_ex_lv (u := 1) (n := m + 10) (by decide), show 1 + 1 = 2 from rfl, f2]
    exact g_stop (by decide) (by decide) (by show K (p + 3) < (9 : Int) ∨ (9 : Int) < K (p + 3); omega)
  have m2 : m_ex K V L P I E (m + 10) 2 d p [] = .inr ([d_bin (K (p + 1)) (P (p + 1) : Nat) X Y], 0) := by
    rw [m_ex_lv (u := 2) (n := m + 9) (by decide), show 2 + 1 = 3 from rfl, hu3 (m := m + 6) h1 (by omega)]
    show m_add 0 (m_ex K V L P I E (m + 9) 9 d (f_ex K L (m + 9) 3 d (false, p)).2 [X]) = _
    rw [gu3 (m := m + 6) h1.1 (by omega), m_ex_lp (n := m + 8) (by decide) (by decide), if_pos ⟨rfl, hq, a, b⟩]
    show m_add 0 (m_bind (m_ex K V L P I E (m + 8) 3 d (p + 2) []) _) = _
    rw [hu3 (m := m + 5) h2 (by omega)]
    rfl
  have m1 : m_ex K V L P I E (m + 11) 1 d p [] = .inr ([d_bin (K (p + 1)) (P (p + 1) : Nat) X Y], 0) := by
    rw [m_ex_lv (u := 1) (n := m + 10) (by decide), show 1 + 1 = 2 from rfl, m2]
    show m_add 0 (m_ex K V L P I E (m + 10) 8 d (f_ex K L (m + 10) 2 d (false, p)).2 [_]) = _
    rw [f2, h_stop (m := m + 9) (by decide) (by decide) (by show K (p + 3) < (9 : Int) ∨ (9 : Int) < K (p + 3); omega)]
    rfl
  rw [m_ex_lv (u := 0) (n := m + 11) (by decide), show 0 + 1 = 1 from rfl, m1]
  show m_add 0 (m_ex K V L P I E (m + 11) 7 d (f_ex K L (m + 11) 1 d (false, p)).2 [_]) = _
  rw [f1, h_stop (m := m + 10) (by decide) (by decide) (by show K (p + 3) < (10 : Int) ∨ (10 : Int) < K (p + 3); omega)]
  rfl
theorem g6 (h : K p ≠ 6) : f_ex K L (m + 1) 6 d (false, p) = f_ex K L m 0 d (false, p) := by
  rw [f_ex_6]
  exact if_neg (fun z => h (Int.le_antisymm z.2.2.2 z.2.2.1))
theorem h6 {acc : List q_D} (h : K p ≠ 6) : m_ex K V L P I E (m + 1) 6 d p acc = m_ex K V L P I E m 0 d p acc := by
  rw [m_ex_6]
  exact if_neg (fun z => h (Int.le_antisymm z.2.2.2 z.2.2.1))
end GE
