/-! ===== form and meaning, told from the end; the model's levels ===== -/
section INV
variable {K V : Nat → Int} {L : Nat} {P I : Nat → Nat} {E : q_E} {n d p q : Nat}
theorem f_see_1 {k : Int} : f_see K L (false, p) k k ↔ p < L ∧ K p = k := ⟨fun z => ⟨z.2.1, by have := z.2.2; simp only at this; omega⟩, fun z => ⟨rfl, z.1, by simp only; omega, by simp only; omega⟩⟩
theorem f_exp_inv {k : Int} {s : Bool × Nat} (h : f_exp K L k s = (false, q)) : ∃ p, s = (false, p) ∧ p < L ∧ K p = k ∧ q = p + 1 := by
  unfold f_exp at h
  by_cases c : f_see K L s k k
  · rw [if_pos c] at h
    injection h with _ h
    exact ⟨s.2, f_eta c.1, c.2.1, by have := c.2.2; omega, h.symm⟩
  · rw [if_neg c] at h
    injection h with h _
    cases h
theorem f_ex_src {u : Nat} {s : Bool × Nat} (hu : u ≤ 12) (h : f_ex K L n u d s = (false, q)) : ∃ p, s = (false, p) := ⟨s.2, f_eta (f_ex_ok hu (by rw [h]))⟩
theorem f_6_inv (h : f_ex K L (n + 1) 6 d (false, p) = (false, q)) : (p < L ∧ K p = 6 ∧ ∃ q1 q2, f_ex K L n 6 (d + 1) (false, p + 1) = (false, q1) ∧ q1 < L ∧ K q1 = 7 ∧ f_ex K L n 6 (d + 1) (false, q1 + 1) = (false, q2) ∧ q2 < L ∧ K q2 = 8 ∧ f_ex K L n 6 (d + 1) (false, q2 + 1) = (false, q)) ∨ (¬ (p < L ∧ K p = 6) ∧ f_ex K L n 0 d (false, p) = (false, q)) := by
  rw [f_ex_6] at h
  by_cases c : f_see K L (false, p) 6 6
  · rw [if_pos c] at h
    by_cases c8 : 8 ≤ d
    · rw [if_pos c8] at h
      injection h with h _
      cases h
    · rw [if_neg c8] at h
      obtain ⟨x1, e1⟩ := f_ex_src (by decide) h
      obtain ⟨q2, e2, l2, k2, g2⟩ := f_exp_inv e1
      obtain ⟨x3, e3⟩ := f_ex_src (by decide) e2
      obtain ⟨q1, e4, l1, k1, g1⟩ := f_exp_inv e3
      rw [e1] at h
      rw [e3] at e2
      subst g2 g1
      exact Or.inl ⟨(f_see_1.mp c).1, (f_see_1.mp c).2, q1, q2, e4, l1, k1, e2, l2, k2, h⟩
  · rw [if_neg c] at h
    exact Or.inr ⟨fun z => c (f_see_1.mpr z), h⟩
theorem f_5_inv (h : f_ex K L (n + 1) 5 d (false, p) = (false, q)) : p < L ∧ ((K p = 2 ∧ q = p + 1) ∨ (K p = 3 ∧ ¬ (p + 1 < L ∧ K (p + 1) = 16) ∧ q = p + 1) ∨ (K p = 3 ∧ p + 1 < L ∧ K (p + 1) = 16 ∧ ∃ q1, f_ex K L n 6 (d + 1) (false, p + 2) = (false, q1) ∧ f_ex K L n 12 (d + 1) (false, q1) = (false, q)) ∨ (K p = 16 ∧ ∃ q1, f_ex K L n 6 (d + 1) (false, p + 1) = (false, q1) ∧ q1 < L ∧ K q1 = 17 ∧ q = q1 + 1) ∨ ((K p = 29 ∨ K p = 11) ∧ f_ex K L n 5 (d + 1) (false, p + 1) = (false, q))) := by
  rw [f_ex_5] at h
  simp only [f_see_1] at h
  by_cases c2 : p < L ∧ K p = 2
  · rw [if_pos c2] at h
    injection h with _ h
    exact ⟨c2.1, Or.inl ⟨c2.2, h.symm⟩⟩
  rw [if_neg c2] at h
  by_cases c3 : p < L ∧ K p = 3
  · rw [if_pos c3] at h
    refine ⟨c3.1, Or.inr ?_⟩
    by_cases c16 : p + 1 < L ∧ K (p + 1) = 16
    · rw [if_pos c16] at h
      by_cases c8 : 8 ≤ d
      · rw [if_pos c8] at h
        injection h with h _
        cases h
      · rw [if_neg c8] at h
        obtain ⟨x1, e1⟩ := f_ex_src (by decide) h
        rw [e1] at h
        exact Or.inr (Or.inl ⟨c3.2, c16.1, c16.2, x1, e1, h⟩)
    · rw [if_neg c16] at h
      injection h with _ h
      exact Or.inl ⟨c3.2, c16, h.symm⟩
  rw [if_neg c3] at h
  by_cases c8 : 8 ≤ d
  · rw [if_pos c8] at h
    injection h with h _
    cases h
  rw [if_neg c8] at h
  by_cases c16 : p < L ∧ K p = 16
  · rw [if_pos c16] at h
    obtain ⟨x1, e1, l1, k1, g1⟩ := f_exp_inv h
    exact ⟨c16.1, Or.inr (Or.inr (Or.inr (Or.inl ⟨c16.2, x1, e1, l1, k1, g1⟩)))⟩
  rw [if_neg c16] at h
  by_cases cu : (p < L ∧ K p = 29) ∨ (p < L ∧ K p = 11)
  · rw [if_pos cu] at h
    exact ⟨cu.elim (·.1) (·.1), Or.inr (Or.inr (Or.inr (Or.inr ⟨cu.elim (fun z => Or.inl z.2) (fun z => Or.inr z.2), h⟩)))⟩
  · rw [if_neg cu] at h
    injection h with h _
    cases h
theorem f_12_inv (h : f_ex K L (n + 1) 12 d (false, p) = (false, q)) : p < L ∧ ((K p = 18 ∧ ∃ q1, f_ex K L n 6 d (false, p + 1) = (false, q1) ∧ f_ex K L n 12 d (false, q1) = (false, q)) ∨ (K p = 17 ∧ q = p + 1)) := by
  rw [f_ex_12] at h
  simp only [f_see_1] at h
  by_cases c : p < L ∧ K p = 18
  · rw [if_pos c] at h
    obtain ⟨x1, e1⟩ := f_ex_src (by decide) h
    rw [e1] at h
    exact ⟨c.1, Or.inl ⟨c.2, x1, e1, h⟩⟩
  · rw [if_neg c] at h
    obtain ⟨x1, e1, l1, k1, g1⟩ := f_exp_inv h
    injection e1 with _ e1
    subst e1
    exact ⟨l1, Or.inr ⟨k1, g1⟩⟩
variable {acc : List q_D}
theorem m_6_if {q1 q2 : Nat} (hp : p < L) (hk : K p = 6) (e1 : f_ex K L n 6 (d + 1) (false, p + 1) = (false, q1)) (e2 : f_ex K L n 6 (d + 1) (false, q1 + 1) = (false, q2)) : m_ex K V L P I E (n + 1) 6 d p acc =
    m_bind (m_ex K V L P I E n 6 (d + 1) (p + 1) []) fun l1 z1 => m_bind (m_ex K V L P I E n 6 (d + 1) (q1 + 1) []) fun l2 z2 => m_bind (m_ex K V L P I E n 6 (d + 1) (q2 + 1) []) fun l3 z3 => .inr ([d_if (I p : Nat) (P p : Nat) (m_hd l1) (m_hd l2) (m_hd l3)], z1 + z2 + z3) := by
  rw [m_ex_6, if_pos (f_see_1.mpr ⟨hp, hk⟩), e1]
  simp only [e2]
theorem m_6_no (h : ¬ (p < L ∧ K p = 6)) : m_ex K V L P I E (n + 1) 6 d p acc = m_ex K V L P I E n 0 d p acc := by
  rw [m_ex_6, if_neg (fun z => h (f_see_1.mp z))]
theorem m_5_num (hp : p < L) (hk : K p = 2) : m_ex K V L P I E (n + 1) 5 d p acc = .inr ([d_num (V p) (P p : Nat)], 0) := by
  rw [m_ex_5, if_pos (f_see_1.mpr ⟨hp, hk⟩)]
theorem m_5_in (hp : p < L) (hk : K p = 3) (h : ¬ (p + 1 < L ∧ K (p + 1) = 16)) : m_ex K V L P I E (n + 1) 5 d p acc = if E.1 (V p) < 0 then .inl (2, p) else .inr ([d_in (E.1 (V p)).toNat], 0) := by
  rw [m_ex_5, if_neg (fun z => by have := f_see_1.mp z; omega), if_pos (f_see_1.mpr ⟨hp, hk⟩), if_neg (fun z => h (f_see_1.mp z))]
theorem m_5_call {q1 : Nat} (hp : p < L) (hk : K p = 3) (h : p + 1 < L ∧ K (p + 1) = 16) (e1 : f_ex K L n 6 (d + 1) (false, p + 2) = (false, q1)) : m_ex K V L P I E (n + 1) 5 d p acc = if E.2.1 (V p) < 0 then .inl (2, p) else
    m_bind (m_ex K V L P I E n 6 (d + 1) (p + 2) []) fun l1 z1 => m_bind (m_ex K V L P I E n 12 (d + 1) q1 [m_hd l1]) fun l2 z2 =>
    if l2.length = E.2.2.1 (E.2.1 (V p)) then .inr ([d_call (E.2.2.2.2 (E.2.1 (V p))) l2], z1 + z2 + E.2.2.2.1 (E.2.1 (V p))) else .inl (6, p) := by
  rw [m_ex_5, if_neg (fun z => by have := f_see_1.mp z; omega), if_pos (f_see_1.mpr ⟨hp, hk⟩), if_pos (f_see_1.mpr h), e1]
theorem m_5_par (hp : p < L) (hk : K p = 16) : m_ex K V L P I E (n + 1) 5 d p acc = m_ex K V L P I E n 6 (d + 1) (p + 1) [] := by
  rw [m_ex_5, if_neg (fun z => by have := f_see_1.mp z; omega), if_neg (fun z => by have := f_see_1.mp z; omega), if_pos (f_see_1.mpr ⟨hp, hk⟩)]
theorem m_5_un (hk : K p = 29 ∨ K p = 11) : m_ex K V L P I E (n + 1) 5 d p acc = m_bind (m_ex K V L P I E n 5 (d + 1) (p + 1) []) fun l z => .inr ([d_un (if K p = 29 then 36 else 11) (m_hd l)], z) := by
  rw [m_ex_5, if_neg (fun z => by have := f_see_1.mp z; omega), if_neg (fun z => by have := f_see_1.mp z; omega), if_neg (fun z => by have := f_see_1.mp z; omega)]
theorem m_12_more {q1 : Nat} (hp : p < L) (hk : K p = 18) (e1 : f_ex K L n 6 d (false, p + 1) = (false, q1)) : m_ex K V L P I E (n + 1) 12 d p acc = m_bind (m_ex K V L P I E n 6 d (p + 1) []) fun l z => m_add z (m_ex K V L P I E n 12 d q1 (acc ++ [m_hd l])) := by
  rw [m_ex_12, if_pos (f_see_1.mpr ⟨hp, hk⟩), e1]
theorem m_12_end (hk : K p = 17) : m_ex K V L P I E (n + 1) 12 d p acc = .inr (acc, 0) := by
  rw [m_ex_12, if_neg (fun z => by have := f_see_1.mp z; omega)]
end INV
section MM
variable {m N L fst til F k : Nat} {B : Int → Int} {E : q_E} {P I : Nat → Nat}
theorem mp_sees {d p c : Nat} {w : bm_W} {Φ : bm_Rt → bm_W → Prop} (h : md_Z m B N w) (h9 : bm_gi w m 9 = (p : Int)) (hp : p ≤ N) (h1 : 1 ≤ c) (h2 : c < 31) : bm_Call bm_pg (d + 6) y_X12_sees [bm_r (some m), bm_k (0, c)] w Φ ↔ Φ (.inl (some (bm_i (if t_K B p = t_kc c then 1 else 0)))) w := by
  refine bm_ans (fun Ψ q => vc_X12_sees ?_)
  simp only [bm_c0_v, bm_c1_v, bm_c2_v, bm_c3_v, bm_c4_v, bm_c5_v, bm_u_some, decide_eq_true_eq, true_and, and_true, and_self, Bool.not_eq_true, Bool.not_eq_true', decide_eq_false_iff_not, if_true, if_false, ite_true, ite_false, eq_self, true_or, or_true, h.1.1.1, h9, mp_is h hp h1 h2]
  refine ⟨?_, q⟩
  split
  · exact Or.inr rfl
  · exact Or.inl rfl
theorem mm_lv5 {n : Nat} (hF : mcF m N L fst til F k B E P I n) : mcL m N L fst til F k B E P I 5 n := by
  intro d depth p q w Φ hz hL hok htl hfo hn hdd hq
  refine vc_X12_level ?_
  rw [if_neg (by decide)]
  refine ⟨hz.1.1.1.1.1, hF d depth p q w _ hz hL hok htl hfo hn hdd (fun x w' h => ?_)⟩
  rw [bm_c1_v]
  exact hq x w' h
theorem mm_lv {u n : Nat} (hu : u < 5) (hF : mcL m N L fst til F k B E P I (u + 1) n) (hP : mcP m N L fst til F k B E P I u n) : mcL m N L fst til F k B E P I u (n + 1) := by
  intro d depth p q w Φ hz hL hok htl hfo hn hdd hq
  obtain ⟨d, rfl⟩ : ∃ d', d = d' + 1 := ⟨d - 1, by omega⟩
  have hpN := hz.2.1.2.1
  rw [if_neg (by omega)] at hn
  rw [f_ex_lv hu] at hok
  rw [m_ex_lv hu] at hq
  obtain ⟨q1, e1⟩ := f_ex_src (by omega) hok
  rw [e1] at hok hq
  simp only at hq
  have r1 := hz.rg (by omega) hpN hL e1
  have r1' := r1.2.2.2 (by omega)
  have hz2 := hz
  have r2 := (hz.rg (by omega) r1.2.1 r1.2.2.1 hok).1
  have hn0 : 0 < n := by omega
  have hfo7 : f_fo (t_K B) L (7 + u) q := ⟨hfo.1, fun z => hfo.2 (by omega)⟩
  have hfo1 : f_fo (t_K B) L (u + 1) q1 := by
    obtain ⟨n, rfl⟩ : ∃ n', n = n' + 1 := ⟨n - 1, by omega⟩
    exact f_fo_lp hu (by rw [hok]; exact hfo7)
  have fin : bm_Call bm_pg (d + 1) y_X12_level [bm_r (some m), bm_i (f_lv (u + 1))] w (fun r w' => bm_c1 (fun x1 => bk_X12_level_58 (d + 1) Φ m (f_lv u) (f_lv (u + 1)) x1 w') (fun E => Φ (.inr E) w') r) := by
    refine hF d depth p q1 w _ hz hL e1 (by omega) hfo1 (by split <;> omega) (by omega) (fun x w2 h2 => ?_)
    rw [bm_c1_v]
    by_cases x0 : x = 0
    · subst x0
      obtain ⟨z2, l, z, hr⟩ := mo_mz hz h2 rfl r1.2.1 r1.1
      have h2' := h2
      rw [hr] at h2'
      obtain ⟨g0, g1, g2, g3, g4, g5, g6, g7⟩ := h2'
      have ve : f_ve (t_K B) q1 := by
        have := f_ex_ve (K := t_K B) (L := L) n (u + 1) depth (false, p) (by omega) (by rw [e1]) (fun y1 y2 => by omega)
        rw [e1] at this
        exact this
      have hf3 := hz.2.1.2.2.1
      refine hP (d + 1) depth q1 q (4 * (q1 - p)) w2 Φ [m_hd l] z2 r1.2.2.1 (by omega) ve hok htl hfo7 (by omega) (by omega) g6 (fun x5 w5 h5 => hq x5 w5 ?_)
      rw [hr]
      simp only [m_bind]
      have fw5 := g0.tr h5.1
      cases hr5 : m_ex (t_K B) (t_V B) L P I E n (7 + u) depth q1 [m_hd l] with
      | inl e =>
        rw [hr5] at h5
        exact ⟨fw5.mo (by omega), h5.2⟩
      | inr y =>
        obtain ⟨l5, z5⟩ := y
        rw [hr5] at h5
        obtain ⟨y0, y1, y2, y3, y4, y5, y6, y7⟩ := h5
        exact ⟨fw5.mo (by omega), y1, y2, by omega, by rw [y4, g4]; omega, by omega, y6.mo (by omega), y7.trans g7⟩
    · refine vb_X12_level_58 ?_
      rw [if_pos (by simpa using x0)]
      obtain ⟨e, hr, y1, y2, y3⟩ := mo_er h2 x0
      refine hq x w2 ?_
      rw [hr]
      exact ⟨h2.1.mo (by omega), y1, y2, y3⟩
  have kt := hz.1.1.1.1.1
  refine vc_X12_level ?_
  rcases (show u = 0 ∨ u = 1 ∨ u = 2 ∨ u = 3 ∨ u = 4 by omega) with rfl | rfl | rfl | rfl | rfl
  · rw [if_pos (by decide), if_neg (by decide)]
    exact ⟨kt, fin⟩
  · rw [if_pos (by decide), if_pos (by decide), if_neg (by decide)]
    exact ⟨kt, fin⟩
  · rw [if_pos (by decide), if_pos (by decide), if_pos (by decide), if_neg (by decide)]
    exact ⟨kt, fin⟩
  · rw [if_pos (by decide), if_pos (by decide), if_pos (by decide), if_pos (by decide), if_neg (by decide)]
    exact ⟨kt, fin⟩
  · rw [if_pos (by decide), if_pos (by decide), if_pos (by decide), if_pos (by decide), if_pos (by decide)]
    exact ⟨kt, fin⟩
end MM
