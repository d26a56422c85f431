/-! ===== the meaning of expressions, in the model: levels ===== -/
/-- the state of the model while the meaning of an expression is looked at -/
def mz (m N fst til F k : Nat) (B : Int → Int) (E : q_E) (P I : Nat → Nat) (w : bm_W) (p : Nat) : Prop :=
  (md_Z m B N w ∧ m + 31 < bm_sz w ∧ bm_gi w m 18 = (F : Int) ∧ F < 6 ∧ bm_gi w (m + 14) F = (k : Int) ∧ k ≤ 3) ∧
  (bm_gi w m 9 = (p : Int) ∧ p ≤ N ∧ fst ≤ p ∧ ∃ n : Nat, bm_gi w m 11 = (n : Int) ∧ n ≤ p) ∧
  (∀ x, fst ≤ x → x < til → (f_pl (t_K B) fst x → bm_gi w (m + 5) x = (P x : Int)) ∧ (t_K B x = 6 → bm_gi w (m + 6) x = (I x : Int))) ∧
  (∀ x, x ≤ N → t_K B x = 3 → t_fd (bm_gl w (m + 15)) (3 * F) (t_37 (t_w B (t_P B x))) k = E.1 (t_V B x) ∧ t_fd (bm_gl w (m + 13)) 0 (t_37 (t_w B (t_P B x))) F = E.2.1 (t_V B x)) ∧
  (∀ g : Nat, g < F → bm_gi w (m + 14) g = (E.2.2.1 (g : Int) : Int) ∧ bm_gi w (m + 20) g = (E.2.2.2.1 (g : Int) : Int)) ∧
  0 ≤ bm_gi w (m + 20) F ∧ bm_gi w (m + 20) F ≤ 1000 + 200 * p
/-- what it answers -/
def mo (m F : Nat) (B : Int → Int) (E : q_E) (r : q_M) (p p' dp : Nat) (x : Int) (w w' : bm_W) : Prop := mf m F (p' - p) w w' ∧ match r with
  | .inl e => x = e.1 ∧ e.1 ≠ 0 ∧ bm_gi w' m 3 = t_P B e.2
  | .inr (l, z) => x = 0 ∧ bm_gi w' m 9 = (p' : Int) ∧ bm_gi w' m 11 ≤ bm_gi w m 11 + ((p' - p : Nat) : Int) ∧ bm_gi w' (m + 20) F = bm_gi w (m + 20) F + (z : Int) ∧ z ≤ 200 * (p' - p) ∧ qn m F E w' (bm_gi w' m 40) (m_hd l) dp ∧ bm_gi w' m 3 = bm_gi w m 3
/-- what follows doesn't go on -/
def f_fo (K : Nat → Int) (L u q : Nat) : Prop := (q = L → ¬ f_go (K L)) ∧ ((u ≤ 2 ∨ (6 ≤ u ∧ u ≤ 9)) → ¬ (22 ≤ K q ∧ K q ≤ 27))
theorem f_fo_lp {K : Nat → Int} {L n u d p : Nat} (hu : u < 5) (h : f_fo K L (7 + u) (f_ex K L (n + 1) (7 + u) d (false, p)).2) : f_fo K L (u + 1) p := by
  by_cases c : f_see K L (false, p) (f_lo (7 + u)) (f_hi (7 + u))
  · have c2 : p < L := c.2.1
    have c3 := c.2.2
    refine ⟨fun z => by omega, fun z => ?_⟩
    rcases (show u = 0 ∨ u = 1 by omega) with rfl | rfl
    · simp [f_lo, f_hi] at c3; omega
    · simp [f_lo, f_hi] at c3; omega
  · rw [f_ex_lp (by omega) (by omega), if_neg c] at h
    exact ⟨h.1, fun z => h.2 (by omega)⟩
section MM
variable {m N L fst til F k : Nat} {B : Int → Int} {E : q_E} {P I : Nat → Nat} {w w' : bm_W}
theorem mz.mv {p p' c : Nat} (h : mz m N fst til F k B E P I w p) (hf : mf m F c w w') (h9 : bm_gi w' m 9 = (p' : Int)) (hN : p' ≤ N) (hp : p ≤ p') (hn : bm_gi w' m 11 ≤ bm_gi w m 11 + ((p' - p : Nat) : Int)) (hs : 0 ≤ bm_gi w' (m + 20) F ∧ bm_gi w' (m + 20) F ≤ 1000 + 200 * p') : mz m N fst til F k B E P I w' p' := by
  obtain ⟨⟨a1, a2, a3, a4, a5, a6⟩, ⟨b1, b2, b3, n, b4, b5⟩, c1, c2, c3, c4⟩ := h
  have g : ∀ a j, a < m + 32 → ¬ (a = m ∨ (m + 7 ≤ a ∧ a ≤ m + 12) ∨ a = m + 20) → bm_gi w' a j = bm_gi w a j := fun a j h1 h2 => hf.1.gi (by omega) h2
  have gl : ∀ a j, a < m + 32 → ¬ (a = m ∨ (m + 7 ≤ a ∧ a ≤ m + 12) ∨ a = m + 20) → bm_gl w' a j = bm_gl w a j := fun a j h1 h2 => hf.1.gl (by omega) h2
  have hz := hf.1.1.1
  have h11 := hf.2.2.2.2
  refine ⟨⟨a1.gw hf.1 a2 (fun z => z) (fun j _ _ => by omega) (hf.2.1 2 (by decide) (by decide) (by decide) (by decide)), by omega, (hf.2.1 18 (by decide) (by decide) (by decide) (by decide)).trans a3, a4, (g _ _ (by omega) (by omega)).trans a5, a6⟩, ⟨h9, hN, by omega, (bm_gi w' m 11).toNat, by omega, by omega⟩, fun x x1 x2 => ?_, fun x x1 x2 => ?_, fun y hy => ?_, hs⟩
  · rw [g (m + 5) x (by omega) (by omega), g (m + 6) x (by omega) (by omega)]
    exact c1 x x1 x2
  · have e15 : bm_gl w' (m + 15) = bm_gl w (m + 15) := funext fun j => gl _ _ (by omega) (by omega)
    have e13 : bm_gl w' (m + 13) = bm_gl w (m + 13) := funext fun j => gl _ _ (by omega) (by omega)
    rw [e15, e13]
    exact c2 x x1 x2
  · rw [g (m + 14) y (by omega) (by omega), hf.2.2.1 y (by omega)]
    exact c3 y hy
/-- a token is taken -/
theorem mz.adv {p : Nat} (h : mz m N fst til F k B E P I w p) (hN : p + 1 ≤ N) : mz m N fst til F k B E P I (bm_si w m 9 ((p : Int) + 1)) (p + 1) ∧ mf m F 0 w (bm_si w m 9 ((p : Int) + 1)) ∧ bm_w (bm_gi w m 9 + 1) = (p : Int) + 1 := by
  have hf : mf m F 0 w (bm_si w m 9 ((p : Int) + 1)) := mf.rf.fld (Or.inr (Or.inl rfl))
  have h5 := h.1.1.2.2.1
  have h9 := h.2.1.1
  refine ⟨h.mv hf (by rw [q_gi_eq]; omega) hN (Nat.le_succ p) (by rw [q_gi_nk (by decide)]; omega) ?_, hf, ?_⟩
  · rw [q_gi_ne (by omega)]
    have := h.2.2.2.2.2
    omega
  · rw [h9, q_wI ⟨by omega, by omega⟩]
theorem mo_mz {r : q_M} {p p' dp : Nat} {x : Int} (h : mz m N fst til F k B E P I w p) (hm : mo m F B E r p p' dp x w w') (hx : x = 0) (hN : p' ≤ N) (hp : p ≤ p') : mz m N fst til F k B E P I w' p' ∧ ∃ l z, r = .inr (l, z) := by
  obtain ⟨hf, hr⟩ := hm
  cases r with
  | inl e => exact absurd (hr.1.symm.trans hx) hr.2.1
  | inr y =>
    obtain ⟨l, z⟩ := y
    obtain ⟨-, r1, r2, r3, r4, r5⟩ := hr
    have := h.2.2.2.2.2
    exact ⟨h.mv hf r1 hN hp r2 ⟨by omega, by omega⟩, l, z, rfl⟩
theorem mo_er {r : q_M} {p p' dp : Nat} {x : Int} (hm : mo m F B E r p p' dp x w w') (hx : ¬ x = 0) : ∃ e, r = .inl e ∧ x = e.1 ∧ e.1 ≠ 0 ∧ bm_gi w' m 3 = t_P B e.2 := by
  cases r with
  | inl e => exact ⟨e, rfl, hm.2.1, hm.2.2.1, hm.2.2.2⟩
  | inr y => exact absurd hm.2.1 hx
end MM
theorem t_opr_op {x a b : Int} (h : t_opr x a b ≠ -1) (ha : 0 ≤ a) (hb : b ≤ 13) : x = t_op (t_opr x a b) ∧ 0 ≤ t_opr x a b ∧ t_opr x a b ≤ 12 := by
  unfold t_opr t_op at *
  grind
theorem t_opr_01 {x : Int} {u : Nat} (hu : u < 5) (h : t_opr x (f_lv u) (f_lv (u + 1)) ≠ -1) : (t_opr x (f_lv u) (f_lv (u + 1)) = 0 ∨ t_opr x (f_lv u) (f_lv (u + 1)) = 1) ↔ (7 + u = 7 ∨ 7 + u = 8) := by
  have c := fun z => h ((f_lv_opr hu).mpr z)
  rcases (show u = 0 ∨ u = 1 ∨ u = 2 ∨ u = 3 ∨ u = 4 by omega) with rfl | rfl | rfl | rfl | rfl <;> simp only [f_lv, f_lo, f_hi, t_opr] at c ⊢ <;> simp at c ⊢ <;> grind
/-- what a method of the model's meaning comes to -/
def mc (m N L fst til F k : Nat) (B : Int → Int) (E : q_E) (P I : Nat → Nat) (u n : Nat) (X : Nat → (bm_Rt → bm_W → Prop) → bm_W → Prop) : Prop := ∀ (d depth p q : Nat) (w : bm_W) (Φ : bm_Rt → bm_W → Prop), mz m N fst til F k B E P I w p → p ≤ L → f_ex (t_K B) L n u depth (false, p) = (false, q) → q ≤ til → f_fo (t_K B) L u q → 8 * (L + 1 - p) + (if u = 6 then 7 else 6 - u) ≤ n → 3 * n + 20 ≤ d → (∀ x w', mo m F B E (m_ex (t_K B) (t_V B) L P I E n u depth p []) p q (4 * (q - p)) x w w' → Φ (.inl (some (bm_i x))) w') → X d Φ w
abbrev mcE (m N L fst til F k : Nat) (B : Int → Int) (E : q_E) (P I : Nat → Nat) (n : Nat) : Prop := mc m N L fst til F k B E P I 6 n (fun d Φ w => bm_Call bm_pg d y_X12_expression [bm_r (some m)] w Φ)
abbrev mcF (m N L fst til F k : Nat) (B : Int → Int) (E : q_E) (P I : Nat → Nat) (n : Nat) : Prop := mc m N L fst til F k B E P I 5 n (fun d Φ w => bm_Call bm_pg d y_X12_factor [bm_r (some m)] w Φ)
abbrev mcL (m N L fst til F k : Nat) (B : Int → Int) (E : q_E) (P I : Nat → Nat) (u n : Nat) : Prop := mc m N L fst til F k B E P I u n (fun d Φ w => bm_Call bm_pg (d + 1) y_X12_level [bm_r (some m), bm_i (f_lv u)] w Φ)
def mcP (m N L fst til F k : Nat) (B : Int → Int) (E : q_E) (P I : Nat → Nat) (u n : Nat) : Prop := ∀ (d depth p q dp : Nat) (w : bm_W) (Φ : bm_Rt → bm_W → Prop) (acc : List q_D), mz m N fst til F k B E P I w p → p ≤ L → fst < p → f_ve (t_K B) p → f_ex (t_K B) L n (7 + u) depth (false, p) = (false, q) → q ≤ til → f_fo (t_K B) L (7 + u) q → 8 * (L + 1 - p) ≤ n → 3 * n + 20 ≤ d → qn m F E w (bm_gi w m 40) (m_hd acc) dp → (∀ x w', mo m F B E (m_ex (t_K B) (t_V B) L P I E n (7 + u) depth p acc) p q (dp + 4 * (q - p)) x w w' → Φ (.inl (some (bm_i x))) w') → bk_X12_level_58 d Φ m (f_lv u) (f_lv (u + 1)) 0 w
theorem f_lp_see {K : Nat → Int} {L n u d p q : Nat} (hu : u < 5) (hs : f_see K L (false, p) (f_lo (7 + u)) (f_hi (7 + u))) (h : f_ex K L (n + 1) (7 + u) d (false, p) = (false, q)) : ∃ q1, f_ex K L n (u + 1) d (false, p + 1) = (false, q1) ∧ ((u = 2 ∧ q = q1) ∨ (u ≠ 2 ∧ f_ex K L n (7 + u) d (false, q1) = (false, q))) := by
  have u6 : 7 + u - 6 = u + 1 := by omega
  rw [f_ex_lp (by omega) (by omega), if_pos hs, u6] at h
  by_cases c9 : u = 2
  · subst c9
    rw [if_pos (by decide)] at h
    exact ⟨q, h, Or.inl ⟨rfl, rfl⟩⟩
  · rw [if_neg (by omega)] at h
    have k1 := f_ex_ok (by omega) (show (f_ex K L n (7 + u) d (f_ex K L n (u + 1) d (false, p + 1))).1 = false by rw [h])
    have k2 := f_eta k1
    generalize (f_ex K L n (u + 1) d (false, p + 1)).2 = q1 at k2
    rw [k2] at h
    exact ⟨q1, k2, Or.inr ⟨c9, h⟩⟩
theorem f_lp_fo {K : Nat → Int} {L n u d q1 q : Nat} (hu : u < 5) (h : f_fo K L (7 + u) q) (hn : 0 < n) (hs : (u = 2 ∧ q = q1) ∨ (u ≠ 2 ∧ f_ex K L n (7 + u) d (false, q1) = (false, q))) : f_fo K L (u + 1) q1 := by
  rcases hs with ⟨rfl, rfl⟩ | ⟨c, hs⟩
  · exact ⟨h.1, fun z => by omega⟩
  · obtain ⟨n, rfl⟩ : ∃ n', n = n' + 1 := ⟨n - 1, by omega⟩
    exact f_fo_lp hu (by rw [hs]; exact h)
theorem m_lp_see {K V : Nat → Int} {L : Nat} {P I : Nat → Nat} {E : q_E} {n u d p q1 : Nat} {acc : List q_D} (hu : u < 5) (hs : f_see K L (false, p) (f_lo (7 + u)) (f_hi (7 + u))) (h : f_ex K L n (u + 1) d (false, p + 1) = (false, q1)) : m_ex K V L P I E (n + 1) (7 + u) d p acc = m_bind (m_ex K V L P I E n (u + 1) d (p + 1) []) fun l z => if u = 2 then .inr ([m_op (7 + u) (K p) (P p : Nat) (m_hd acc) (m_hd l)], z) else m_add z (m_ex K V L P I E n (7 + u) d q1 [m_op (7 + u) (K p) (P p : Nat) (m_hd acc) (m_hd l)]) := by
  have u6 : 7 + u - 6 = u + 1 := by omega
  rw [m_ex_lp (by omega) (by omega), if_pos hs, u6, h]
  by_cases c9 : u = 2
  · subst c9
    simp only [if_true]
  · simp only [c9, show ¬ 7 + u = 9 by omega, if_false]
section MM
variable {m N L fst til F k : Nat} {B : Int → Int} {E : q_E} {P I : Nat → Nat}
theorem mo_rf {w : bm_W} {p dp : Nat} {acc : List q_D} (h : mz m N fst til F k B E P I w p) (hq : qn m F E w (bm_gi w m 40) (m_hd acc) dp) : mo m F B E (.inr (acc, 0)) p p (dp + 4 * (p - p)) 0 w w :=
  ⟨mf.rf.mo (Nat.zero_le _), rfl, h.2.1.1, by omega, by omega, by omega, hq.mo (by omega), rfl⟩
theorem mz.rng {w : bm_W} {p0 : Nat} (h : mz m N fst til F k B E P I w p0) (n u d : Nat) {p : Nat} (hu : u ≤ 12) (hq : p ≤ N) (hq2 : p ≤ L) : p ≤ (f_ex (t_K B) L n u d (false, p)).2 ∧ (f_ex (t_K B) L n u d (false, p)).2 ≤ N ∧ (f_ex (t_K B) L n u d (false, p)).2 ≤ L ∧ ((f_ex (t_K B) L n u d (false, p)).1 = false → (u ≤ 6 ∨ u = 12) → p < (f_ex (t_K B) L n u d (false, p)).2) := by
  have h0 := h.1.1.2.2.2.2
  have := f_ex_rng (K := t_K B) (L := L) (M := min N L) (fun x a b c => by
    rcases Nat.lt_or_ge x N with z | z
    · omega
    · exact absurd (show t_K B x = 0 by rw [show x = N by omega]; exact h0) c) n u d (false, p) hu (by show p ≤ min N L; omega)
  simp only at this
  exact ⟨this.1, by omega, by omega, this.2.2⟩
theorem mz.lt {w : bm_W} {p0 p : Nat} (h : mz m N fst til F k B E P I w p0) (hp : p ≤ N) (hk : t_K B p ≠ 0) : p + 1 ≤ N := by
  rcases Nat.lt_or_ge p N with y | y
  · exact y
  · exact absurd (show t_K B p = 0 by rw [show p = N by omega]; exact h.1.1.2.2.2.2) hk
theorem f_lv_rng {u : Nat} (h : u < 5) : 0 ≤ f_lv u ∧ f_lv (u + 1) ≤ 13 := by
  rcases (show u = 0 ∨ u = 1 ∨ u = 2 ∨ u = 3 ∨ u = 4 by omega) with rfl | rfl | rfl | rfl | rfl <;> decide
theorem f_lo_pos (u : Nat) : 9 ≤ f_lo u := by unfold f_lo; split <;> (try split) <;> (try split) <;> (try split) <;> decide
theorem mz.rg {w : bm_W} {p0 p q n u d : Nat} (h : mz m N fst til F k B E P I w p0) (hu : u ≤ 12) (hp : p ≤ N) (hL : p ≤ L) (he : f_ex (t_K B) L n u d (false, p) = (false, q)) : p ≤ q ∧ q ≤ N ∧ q ≤ L ∧ ((u ≤ 6 ∨ u = 12) → p < q) := by
  have := h.rng (L := L) n u d hu hp hL
  rw [he] at this
  exact ⟨this.1, this.2.1, this.2.2.1, this.2.2.2 rfl⟩
theorem mm_lp {u n : Nat} (hu : u < 5) (hF : mcL m N L fst til F k B E P I (u + 1) n) (hP : mcP m N L fst til F k B E P I u n) : mcP m N L fst til F k B E P I u (n + 1) := by
  intro d depth p q dp w Φ acc hz hL hf hv hok htl hfo hn hdd hqn hq
  obtain ⟨d, rfl⟩ : ∃ d', d = d' + 20 := ⟨d - 20, by omega⟩
  have hZ := hz.1.1
  have hN5 := hZ.2.2.1
  have h9 := hz.2.1.1
  have hpN := hz.2.1.2.1
  have lr := f_lv_rng hu
  refine vb_X12_level_58 ?_
  simp only [bm_c0_v, bm_c1_v, bm_c2_v, bm_c3_v, bm_c4_v, bm_c5_v, bm_u_some, decide_eq_true_eq, true_and, and_true, and_self, Bool.not_eq_true, Bool.not_eq_true', decide_eq_false_iff_not, if_true, if_false, ite_true, ite_false, eq_self, hZ.1.1.1, h9, mp_operator hZ hpN lr.1 lr.2, f_lv_opr hu, not_true_eq_false]
  by_cases c : f_lo (7 + u) ≤ t_K B p ∧ t_K B p ≤ f_hi (7 + u)
  · rw [if_neg (fun z => z c)]
    have lo9 := f_lo_pos (7 + u)
    have hN1 := hz.lt hpN (show t_K B p ≠ 0 by omega)
    have pL : p < L := by
      rcases Nat.lt_or_ge p L with y | y
      · exact y
      · have e : p = L := by omega
        rw [f_ex_lp_lim (s := (false, p)) e (by omega) (by omega)] at hok
        injection hok with _ e2
        exact absurd (f_lo_go hu c) (by rw [e]; exact hfo.1 (by omega))
    have hs : f_see (t_K B) L (false, p) (f_lo (7 + u)) (f_hi (7 + u)) := ⟨rfl, pL, c.1, c.2⟩
    obtain ⟨z1, f1, -⟩ := hz.adv hN1
    obtain ⟨q1, hq1, hst⟩ := f_lp_see hu hs hok
    have hfo1 := f_lp_fo hu hfo (by omega) hst
    have e2 := m_lp_see (V := t_V B) (P := P) (I := I) (E := E) (acc := acc) hu hs hq1
    rw [e2] at hq
    clear e2 hok
    have r1 := hz.rg (by omega) hN1 pL hq1
    have r1' := r1.2.2.2 (by omega)
    have r2 : q1 ≤ q := by
      rcases hst with y | y
      · omega
      · exact (hz.rg (by omega) r1.2.1 r1.2.2.1 y.2).1
    have no : t_opr (t_K B p) (f_lv u) (f_lv (u + 1)) ≠ -1 := fun z => (f_lv_opr hu).mp z c
    obtain ⟨o1, o2, o3⟩ := t_opr_op no lr.1 lr.2
    have o4 := t_opr_01 hu no
    have hpl : f_pl (t_K B) fst p := by
      have : t_K B p = 9 ∨ t_K B p = 10 ∨ (22 ≤ t_K B p ∧ t_K B p ≤ 32) := by
        have := f_lo_go hu c
        unfold f_go at this
        rcases this with y | y | y | y
        · exact Or.inl y
        · exact Or.inr (Or.inl y)
        · exfalso
          rcases (show u = 0 ∨ u = 1 ∨ u = 2 ∨ u = 3 ∨ u = 4 by omega) with rfl | rfl | rfl | rfl | rfl <;> simp [f_lo, f_hi] at c <;> omega
        · exact Or.inr (Or.inr y)
      rcases this with y | y | y
      · exact Or.inr (Or.inr (Or.inl y))
      · exact Or.inr (Or.inr (Or.inr (Or.inl y)))
      · exact Or.inr (Or.inr (Or.inr (Or.inr ⟨y.1, y.2, fun _ => ⟨hf, hv⟩⟩)))
    rw [q_wI (x := (p : Int) + 1) ⟨by omega, by omega⟩]
    refine ⟨z1.1.1.1.1.1, hF (d + 19) depth (p + 1) q1 _ _ z1 pL hq1 (by omega) hfo1 (by split <;> omega) (by omega) (fun x2 w2 h2 => ?_)⟩
    · rw [bm_c1_v]
      by_cases x0 : x2 = 0
      · rw [if_neg (fun z => z x0)]
        obtain ⟨z2, l, z, hr⟩ := mo_mz z1 h2 x0 r1.2.1 r1.1
        have Z2 := z2.1.1
        have h2' := h2
        rw [hr] at h2'
        obtain ⟨g0, g1, g2, g3, g4, g5, g6, g7⟩ := h2'
        have fw2 : mf m F (0 + (q1 - (p + 1))) w w2 := f1.tr g0
        have lq : qn m F E w2 (bm_gi w m 40) (m_hd acc) dp := hqn.fr fw2
        obtain ⟨nn, n1, n2⟩ := z2.2.1.2.2.2
        have mk := (z2.2.2.1 p (by omega) (by omega)).1 hpl
        refine ⟨Z2.1.1.1, Z2.1.1.1, ?_⟩
        rw [mp_operator Z2 hpN lr.1 lr.2, bm_c1_v]
        simp only [Z2.1.1.1, Z2.1.1.g7, Z2.1.1.t7, Z2.1.1.n7, bm_in, bm_u_some, true_and, Int.toNat_natCast, mk]
        refine ⟨by omega, ?_⟩
        have n11a : bm_gi (bm_si w m 9 ((p : Int) + 1)) m 11 = bm_gi w m 11 := q_gi_nk (by decide)
        obtain ⟨n0, n01, n02⟩ := hz.2.1.2.2.2
        have nlt : nn < 1500 := by omega
        rw [mp_node Z2.1.1 n1 nlt, bm_c1_v, x0]
        generalize t_opr (t_K B p) (f_lv u) (f_lv (u + 1)) = o at o1 o2 o3 o4 no ⊢
        have ndq := nd_at (m := m) (w := w2) (n := nn) (k := 5) (a := bm_gi w m 40) (b := bm_gi w2 m 40) (x := -1) (i := o) (p := (P p : Int))
        have Q : qn m F E (md_nd w2 m nn 5 (bm_gi w m 40) (bm_gi w2 m 40) (-1) o (P p : Int)) (bm_gi (md_nd w2 m nn 5 (bm_gi w m 40) (bm_gi w2 m 40) (-1) o (P p : Int)) m 40) (m_hd [m_op (7 + u) (t_K B p) (P p : Nat) (m_hd acc) (m_hd l)]) (dp + 4 * (q1 - p)) := by
          rw [ndq.2.2.2.2.2.2.1]
          have := qn_bin (m := m) (F := F) (E := E) (w := w2) (p := (P p : Int)) (x := -1) n1 nlt (lq.mo (dp' := dp + 4 * (q1 - (p + 1))) (by omega)) (g6.mo (dp' := dp + 4 * (q1 - (p + 1))) (by omega)) ⟨o2, o3⟩
          have e : m_hd [m_op (7 + u) (t_K B p) (P p : Nat) (m_hd acc) (m_hd l)] = (if o = 0 ∨ o = 1 then d_lo (t_op o) (P p : Nat) (m_hd acc) (m_hd l) else d_bin (t_op o) (P p : Nat) (m_hd acc) (m_hd l)) := by
            show m_op _ _ _ _ _ = _
            unfold m_op
            rw [← o1]
            by_cases y : 7 + u = 7 ∨ 7 + u = 8
            · rw [if_pos y, if_pos (o4.mpr y)]
            · rw [if_neg y, if_neg (fun v => y (o4.mp v))]
          rw [e]
          exact this.mo (by omega)
        have fw4 : mf m F (0 + (q1 - (p + 1))) w (md_nd w2 m nn 5 (bm_gi w m 40) (bm_gi w2 m 40) (-1) o (P p : Int)) := fw2.node n1
        have w49 : bm_gi (md_nd w2 m nn 5 (bm_gi w m 40) (bm_gi w2 m 40) (-1) o (P p : Int)) m 9 = (q1 : Int) := (nd_ne (by omega) (by omega)).trans g2
        have w43 : bm_gi (md_nd w2 m nn 5 (bm_gi w m 40) (bm_gi w2 m 40) (-1) o (P p : Int)) m 3 = bm_gi w2 m 3 := nd_ne (by omega) (by omega)
        have w411 : bm_gi (md_nd w2 m nn 5 (bm_gi w m 40) (bm_gi w2 m 40) (-1) o (P p : Int)) m 11 = (nn : Int) + 1 := ndq.2.2.2.2.2.2.2
        have sz1 : bm_gi (bm_si w m 9 ((p : Int) + 1)) (m + 20) F = bm_gi w (m + 20) F := q_gi_ne (by omega)
        have w420 : bm_gi (md_nd w2 m nn 5 (bm_gi w m 40) (bm_gi w2 m 40) (-1) o (P p : Int)) (m + 20) F = bm_gi w (m + 20) F + (z : Int) := by
          rw [nd_ne (by omega) (by omega), g4, sz1]
        have s20 := hz.2.2.2.2.2
        have z4 : mz m N fst til F k B E P I (md_nd w2 m nn 5 (bm_gi w m 40) (bm_gi w2 m 40) (-1) o (P p : Int)) q1 := hz.mv fw4 w49 r1.2.1 (by omega) (by rw [w411]; omega) (by rw [w420]; omega)
        generalize md_nd w2 m nn 5 (bm_gi w m 40) (bm_gi w2 m 40) (-1) o (P p : Int) = w4 at Q fw4 w49 w411 w43 w420 z4 ⊢
        clear ndq h2 g0 g6 lq
        rcases hst with ⟨c9, c10⟩ | ⟨c9, c10⟩
        · -- no second comparison
          subst c9
          subst c10
          have Z4 := z4.1.1
          refine vb_X12_level_58 ?_
          simp only [bm_c0_v, bm_c1_v, bm_c2_v, bm_c3_v, bm_c4_v, bm_c5_v, bm_u_some, decide_eq_true_eq, true_and, and_true, and_self, Bool.not_eq_true, Bool.not_eq_true', decide_eq_false_iff_not, if_true, if_false, ite_true, ite_false, eq_self, Z4.1.1.1, w49, mp_operator Z4 r1.2.1 lr.1 lr.2, f_lv_opr (show 2 < 5 by decide), not_true_eq_false]
          have nc2 : ¬ (f_lo (7 + 2) ≤ t_K B q ∧ t_K B q ≤ f_hi (7 + 2)) := hfo.2 (Or.inr ⟨by decide, by decide⟩)
          rw [if_pos nc2]
          refine hq 0 w4 ?_
          rw [hr]
          refine ⟨fw4.mo (by omega), rfl, w49, by rw [w411]; omega, w420, by omega, Q, w43.trans (g7.trans (q_gi_nk (by decide)))⟩
        · have ve : f_ve (t_K B) q1 := by
            have := f_ex_ve (K := t_K B) (L := L) n (u + 1) depth (false, p + 1) (by omega) (by rw [hq1]) (fun y1 y2 => by omega)
            rw [hq1] at this
            exact this
          refine hP (d + 20) depth q1 q (dp + 4 * (q1 - p)) w4 Φ [m_op (7 + u) (t_K B p) (P p : Nat) (m_hd acc) (m_hd l)] z4 r1.2.2.1 (by omega) ve c10 htl hfo (by omega) (by omega) Q (fun x5 w5 h5 => hq x5 w5 ?_)
          rw [hr]
          simp only [m_bind, c9, if_false]
          have fw5 := fw4.tr h5.1
          cases hr5 : m_ex (t_K B) (t_V B) L P I E n (7 + u) depth q1 [m_op (7 + u) (t_K B p) (P p : Nat) (m_hd acc) (m_hd l)] with
          | inl e =>
            rw [hr5] at h5
            exact ⟨fw5.mo (by omega), h5.2⟩
          | inr y =>
            obtain ⟨l5, z5⟩ := y
            rw [hr5] at h5
            obtain ⟨y0, y1, y2, y3, y4, y5, y6, y7⟩ := h5
            refine ⟨fw5.mo (by omega), y1, y2, by rw [w411] at y3; omega, by rw [y4, w420]; omega, by omega, y6.mo (by omega), y7.trans (w43.trans (g7.trans (q_gi_nk (by decide))))⟩
      · rw [if_pos x0]
        refine vb_X12_level_58 ?_
        rw [if_pos (by simpa using x0)]
        obtain ⟨e, hr, q1, q2, q3⟩ := mo_er h2 x0
        refine hq x2 w2 ?_
        rw [hr]
        exact ⟨(f1.tr h2.1).mo (by omega), q1, q2, q3⟩
  · rw [if_pos c]
    have hs : ¬ f_see (t_K B) L (false, p) (f_lo (7 + u)) (f_hi (7 + u)) := fun z => c z.2.2
    rw [f_ex_lp (by omega) (by omega), if_neg hs] at hok
    injection hok with _ hok
    subst hok
    rw [m_ex_lp (by omega) (by omega), if_neg hs] at hq
    exact hq 0 w (mo_rf hz hqn)
end MM
