/-! ===== reading, in the class: sums, products, relations ===== -/
def f_st (K : Nat → Int) (fst q : Nat) : Prop := ¬ (fst < q ∧ f_ve K q)
/-- what a method that reads a part of an expression comes to -/
def rc (t f k N L fst : Nat) (B : Int → Int) (E : q_E) (num : Int) (P I : Nat → Nat) (u y n : Nat) : Prop := ∀ (d depth : Nat) (s : Bool × Nat) (w : bm_W) (Φ : bm_Rt → bm_W → Prop), rs t f k N L fst B E num s w → (s.1 = false → f_st (t_K B) fst s.2) → depth ≤ 8 → 8 * (L + 1 - s.2) + (if u = 6 then 7 else 6 - u) ≤ n → 3 * n + 6 ≤ d → (∀ w', px t f B (f_ex (t_K B) L n u depth s) (m_ex (t_K B) (t_V B) L P I E n u depth s.2 []) (gx t f k fst P I E num s.2 (f_ex (t_K B) L n u depth s).2 w w') w w' → Φ (.inl none) w') → bm_Call bm_pg d y [bm_r (some (t + 112)), bm_i (depth : Int)] w Φ
/-- what a loop that reads the rest of a level comes to -/
def rl (t f k N L fst : Nat) (B : Int → Int) (E : q_E) (num : Int) (P I : Nat → Nat) (u n : Nat) (X : Nat → (bm_Rt → bm_W → Prop) → Int → Int → Int → bm_W → Prop) : Prop := ∀ (d depth : Nat) (s : Bool × Nat) (w : bm_W) (Φ : bm_Rt → bm_W → Prop) (acc : List q_D) (terms op : Int), rs t f k N L fst B E num s w → (s.1 = false → fst < s.2 ∧ f_ve (t_K B) s.2) → depth ≤ 8 → 8 * (L + 1 - s.2) ≤ n → 3 * n + 6 ≤ d → op = (if f_see (t_K B) L s (f_lo u) (f_hi u) then t_K B s.2 else -1) → 1 ≤ terms → terms ≤ 50 → (s.1 = false → terms + fst ≤ s.2) → (∀ w', px t f B (f_ex (t_K B) L n u depth s) (m_ex (t_K B) (t_V B) L P I E n u depth s.2 acc) (gl t f k fst P I E num acc s.2 (f_ex (t_K B) L n u depth s).2 w w') w w' → Φ (.inl none) w') → X d Φ (depth : Int) op terms w
section RD
variable {t f k N L fst : Nat} {B : Int → Int} {E : q_E} {num : Int} {P I : Nat → Nat}
theorem rs.rng {s : Bool × Nat} {w : bm_W} (h : rs t f k N L fst B E num s w) (n u d : Nat) {q : Nat} {b : Bool} (hu : u ≤ 12) (hq : q ≤ N) (hq2 : q ≤ L) : q ≤ (f_ex (t_K B) L n u d (b, q)).2 ∧ (f_ex (t_K B) L n u d (b, q)).2 ≤ N ∧ (f_ex (t_K B) L n u d (b, q)).2 ≤ L ∧ ((f_ex (t_K B) L n u d (b, q)).1 = false → (u ≤ 6 ∨ u = 12) → q < (f_ex (t_K B) L n u d (b, q)).2) := by
  have h0 := h.2.1.2.2.1
  have := f_ex_rng (K := t_K B) (L := L) (M := min N L) (fun x a b c => by
    rcases Nat.lt_or_ge x N with z | z
    · omega
    · exact absurd (show t_K B x = 0 by rw [show x = N by omega]; exact h0) c) n u d (b, q) hu (by show q ≤ min N L; omega)
  simp only at this
  exact ⟨this.1, by omega, by omega, this.2.2⟩
theorem px_ded {s' : Bool × Nat} {r : q_M} {G : List q_D → Nat → Prop} {w w' : bm_W} (hx : fx t f w w') (h8 : bm_gi w' t 8 = (s'.2 : Int)) (h10 : bm_gi w' t 10 = bm_bo s'.1) (hs : s'.1 = true) : px t f B s' r G w w' := ⟨hx, h8, h10, fun z => by rw [hs] at z; cases z⟩
theorem px_rf {s : Bool × Nat} {acc : List q_D} {w : bm_W} (h : rs t f k N L fst B E num s w) : px t f B s (.inr (acc, 0)) (gl t f k fst P I E num acc s.2 s.2 w w) w w :=
  ⟨fx.rf, h.2.2.1.1, h.2.2.1.2.1, fun _ => ⟨fun _ => ⟨rfl, rfl⟩, fun c => ⟨c, fun c00 c0 wt a1 a2 a3 a4 a5 a6 a7 _ => ⟨c0, a1, Nat.le_refl _, Nat.le_refl _, by omega, by omega, fun _ _ _ _ _ => rfl, a5.mo (by omega)⟩⟩⟩⟩
/-- no loop without its operator -/
theorem lp_no {n u depth : Nat} {s : Bool × Nat} {acc : List q_D} {w : bm_W} (h : rs t f k N L fst B E num s w) (hu : 7 ≤ u ∧ u ≤ 11) (c : ¬ f_see (t_K B) L s (f_lo u) (f_hi u)) : px t f B (f_ex (t_K B) L (n + 1) u depth s) (m_ex (t_K B) (t_V B) L P I E (n + 1) u depth s.2 acc) (gl t f k fst P I E num acc s.2 (f_ex (t_K B) L (n + 1) u depth s).2 w w) w w := by
  have e : f_ex (t_K B) L (n + 1) u depth s = s := by rw [f_ex_lp hu.1 hu.2, if_neg c]
  rw [e]
  obtain ⟨b, q⟩ := s
  cases b
  · rw [m_ex_lp hu.1 hu.2, if_neg c]
    exact px_rf h
  · exact px_ded fx.rf h.2.2.1.1 h.2.2.1.2.1 rfl
theorem f_st_op {K : Nat → Int} {q : Nat} (h : ¬ (K q = 2 ∨ K q = 3 ∨ K q = 17)) : f_st K fst (q + 1) := fun z => h (by
  have := z.2.2
  rw [Nat.add_sub_cancel] at this
  exact this)
/-- loops: a step and the rest -/
theorem lp_go {n u depth q : Nat} {acc : List q_D} {w w4 w5 : bm_W} (hrs : rs t f k N L fst B E num (false, q) w) (hu : u = 7 ∨ u = 8 ∨ u = 10 ∨ u = 11) (c : f_see (t_K B) L (false, q) (f_lo u) (f_hi u)) (hqN : q + 1 ≤ N) (h4 : px t f B (f_ex (t_K B) L n (u - 6) depth (false, q + 1)) (m_bind (m_ex (t_K B) (t_V B) L P I E n (u - 6) depth (q + 1) []) (fun l z => .inr ([m_op u (t_K B q) (P q : Nat) (m_hd acc) (m_hd l)], z))) (gl t f k fst P I E num acc q (f_ex (t_K B) L n (u - 6) depth (false, q + 1)).2 w w4) w w4)
    (h5 : px t f B (f_ex (t_K B) L n u depth (f_ex (t_K B) L n (u - 6) depth (false, q + 1))) (m_ex (t_K B) (t_V B) L P I E n u depth (f_ex (t_K B) L n (u - 6) depth (false, q + 1)).2 (m_l (m_bind (m_ex (t_K B) (t_V B) L P I E n (u - 6) depth (q + 1) []) (fun l z => .inr ([m_op u (t_K B q) (P q : Nat) (m_hd acc) (m_hd l)], z))))) (gl t f k fst P I E num (m_l (m_bind (m_ex (t_K B) (t_V B) L P I E n (u - 6) depth (q + 1) []) (fun l z => .inr ([m_op u (t_K B q) (P q : Nat) (m_hd acc) (m_hd l)], z)))) (f_ex (t_K B) L n (u - 6) depth (false, q + 1)).2 (f_ex (t_K B) L n u depth (f_ex (t_K B) L n (u - 6) depth (false, q + 1))).2 w4 w5) w4 w5) :
    px t f B (f_ex (t_K B) L (n + 1) u depth (false, q)) (m_ex (t_K B) (t_V B) L P I E (n + 1) u depth q acc) (gl t f k fst P I E num acc q (f_ex (t_K B) L (n + 1) u depth (false, q)).2 w w5) w w5 := by
  have e1 : f_ex (t_K B) L (n + 1) u depth (false, q) = f_ex (t_K B) L n u depth (f_ex (t_K B) L n (u - 6) depth (false, q + 1)) := by rw [f_ex_lp (by omega) (by omega), if_pos c, if_neg (by omega)]
  have e2 : m_ex (t_K B) (t_V B) L P I E (n + 1) u depth q acc = m_bind (m_bind (m_ex (t_K B) (t_V B) L P I E n (u - 6) depth (q + 1) []) (fun l z => .inr ([m_op u (t_K B q) (P q : Nat) (m_hd acc) (m_hd l)], z))) (fun l z => m_add z (m_ex (t_K B) (t_V B) L P I E n u depth (f_ex (t_K B) L n (u - 6) depth (false, q + 1)).2 l)) := by
    rw [m_ex_lp (by omega) (by omega), if_pos c]
    simp only [show ¬ u = 9 by omega, if_false]
    exact m_bind_op (F := fun l => m_op u (t_K B q) (P q : Nat) (m_hd acc) (m_hd l)) (lp := fun l => m_ex (t_K B) (t_V B) L P I E n u depth (f_ex (t_K B) L n (u - 6) depth (false, q + 1)).2 l)
  rw [e1, e2]
  refine px_lp (lp := fun l => m_ex (t_K B) (t_V B) L P I E n u depth (f_ex (t_K B) L n (u - 6) depth (false, q + 1)).2 l) h4 h5 (fun z => ?_)
  have z1 := f_ex_ok (by omega) z
  have r1 := hrs.rng n (u - 6) depth (q := q + 1) (b := false) (by omega) hqN c.2.1
  have r2 := hrs.rng n u depth (q := (f_ex (t_K B) L n (u - 6) depth (false, q + 1)).2) (b := (f_ex (t_K B) L n (u - 6) depth (false, q + 1)).1) (by omega) r1.2.1 r1.2.2.1
  exact ⟨z1, by omega, r2.1⟩
theorem rd_lp_Sum {n : Nat} (hP : hp (t_K B) P I fst) (hF : rc t f k N L fst B E num P I 4 y_X0_readProduct n) (hL : rl t f k N L fst B E num P I 10 n (fun d Φ dep op terms w => bk_X0_readSum_19 d Φ (t + 112) dep op terms w)) : rl t f k N L fst B E num P I 10 (n + 1) (fun d Φ dep op terms w => bk_X0_readSum_19 d Φ (t + 112) dep op terms w) := by
  intro d depth s w Φ acc terms op hrs hv hd hn hdd hop ht1 ht2 ht3 hq
  obtain ⟨d, rfl⟩ : ∃ d', d = d' + 6 := ⟨d - 6, by omega⟩
  obtain ⟨b, q⟩ := s
  have had := hrs.ad
  refine vb_X0_readSum_19 ?_
  by_cases c : f_see (t_K B) L (b, q) (f_lo 10) (f_hi 10)
  · obtain rfl : b = false := c.1
    rw [if_pos c] at hop
    have c4 : 28 ≤ t_K B q ∧ t_K B q ≤ 29 := c.2.2
    have cK : f_see (t_K B) L (false, q) op op := ⟨rfl, c.2.1, by rw [hop]; exact Int.le_refl _, by rw [hop]; exact Int.le_refl _⟩
    have c50 : ¬ (50 : Int) ≤ terms := by
      have h1 := ht3 rfl
      have h2 := hrs.2.1.2.2.2.2.2.2.1
      have h3 : q < L := c.2.1
      simp only at h1
      omega
    obtain ⟨w1rs, w1x⟩ := hrs.adv (by decide) c
    have w2rs : rs t f k N L fst B E num (false, q + 1) (bm_si (bm_si w t 8 (bm_gi w t 8 + 1)) f 8 (bm_w (bm_gi (bm_si w t 8 (bm_gi w t 8 + 1)) f 8 + 1))) := w1rs.st (fx.rf.si had.1 had.2 (by omega)) (q_gi_ne (by omega)) (q_gi_ne (by omega))
    simp only [bm_c0_v, bm_c1_v, bm_c2_v, bm_c3_v, bm_c4_v, bm_c5_v, bm_u_some, decide_eq_true_eq, true_and, and_true, and_self, Bool.not_eq_true, Bool.not_eq_true', decide_eq_false_iff_not, if_true, if_false, ite_true, ite_false, eq_self, hrs.1.2.2.2.1, hrs.1.2.2.2.2.1, hrs.1.2.2.2.2.2.1, hrs.1.2.2.2.2.2.2, hrs.1.1.1, hrs.1.2.1.1, hrs.1.2.2.1.1, hrs.pass_t cK, c50, w1rs.1.2.2.2.1, w1rs.1.2.2.2.2.1, w1rs.1.2.2.2.2.2.1, w1rs.1.2.2.2.2.2.2, w1rs.1.1.1, w1rs.1.2.1.1, w1rs.1.2.2.1.1, sp_nextPlace w1rs.1.2.2.1, w2rs.1.2.2.2.1, w2rs.1.2.2.2.2.1, w2rs.1.2.2.2.2.2.1, w2rs.1.2.2.2.2.2.2, w2rs.1.1.1, w2rs.1.2.1.1, w2rs.1.2.2.1.1, Int.reduceEq]
    have hqN : q + 1 ≤ N := w1rs.2.2.1.2.2.2.1
    have r1 := hrs.rng n 4 depth (q := q + 1) (b := false) (by decide) hqN c.2.1
    refine hF _ depth (false, q + 1) _ _ w2rs (fun _ => f_st_op (by omega)) hd (by have : q < L := c.2.1; simp only at hn ⊢; simp; omega) (by omega) (fun w3 h3 => ?_)
    have w3rs := w2rs.mv (s' := f_ex (t_K B) L n 4 depth (false, q + 1)) h3.1 h3.2.1 h3.2.2.1 r1.2.1 r1.2.2.1 (by have := hrs.2.2.1.2.2.2.2.2; simp only at this; omega)
    have w4rs : rs t f k N L fst B E num (f_ex (t_K B) L n 4 depth (false, q + 1)) (fn_emit w3 f op 0 (bm_w (bm_w (bm_gi (bm_si w t 8 (bm_gi w t 8 + 1)) f 8 + 1) - 1))) := w3rs.st (fx.rf.emit had.1 had.2) (em_k (by omega) (by omega) (by omega) (by omega)) (em_k (by omega) (by omega) (by omega) (by omega))
    simp only [bm_c0_v, bm_c1_v, bm_c2_v, bm_c3_v, bm_c4_v, bm_c5_v, bm_u_some, decide_eq_true_eq, true_and, and_true, and_self, Bool.not_eq_true, Bool.not_eq_true', decide_eq_false_iff_not, if_true, if_false, ite_true, ite_false, eq_self, w3rs.1.2.2.2.1, w3rs.1.2.2.2.2.1, w3rs.1.2.2.2.2.2.1, w3rs.1.2.2.2.2.2.2, w3rs.1.1.1, w3rs.1.2.1.1, w3rs.1.2.2.1.1, sp_emit w3rs.1.2.2.1, w4rs.1.2.2.2.1, w4rs.1.2.2.2.2.1, w4rs.1.2.2.2.2.2.1, w4rs.1.2.2.2.2.2.2, w4rs.1.1.1, w4rs.1.2.1.1, w4rs.1.2.2.1.1, sp_oneOf w4rs.1.1, w4rs.one]
    rw [q_wI (x := terms + 1) ⟨by omega, by omega⟩]
    have B4 := bin_fin (acc := acc) (by decide) hrs c (hv rfl) hP rfl h3 (fun z => ⟨r1.2.2.2 z (by decide), r1.2.2.1⟩)
    rw [← hop] at B4
    refine hL _ depth (f_ex (t_K B) L n 4 depth (false, q + 1)) _ _ (m_l (m_bind (m_ex (t_K B) (t_V B) L P I E n 4 depth (q + 1) []) (fun l z => .inr ([m_op 10 op (P q : Nat) (m_hd acc) (m_hd l)], z)))) (terms + 1) _ w4rs (fun z => ⟨?_, f_ex_ve n 4 depth (false, q + 1) (by decide) z (fun z1 => absurd z1 (by decide))⟩) hd (by have : q < L := c.2.1; simp only at hn; omega) (by omega) rfl (by omega) (by omega) (fun z => ?_) (fun w5 h5 => hq w5 ?_)
    · have := hrs.2.2.1.2.2.2.2.2; simp only at this; omega
    · have := r1.2.2.2 z (by decide); have := ht3 rfl; simp only at this; omega
    · subst hop
      exact lp_go hrs (by decide) c hqN B4 h5
  · rw [if_neg c] at hop
    have cK : ¬ f_see (t_K B) L (b, q) op op := fun z => by
      have z1 : op ≤ t_K B q ∧ t_K B q ≤ op := z.2.2
      have z2 : 0 ≤ t_K B q := (t_k_rng B (t_P B q)).1
      omega
    have fin := hq w (lp_no hrs (by decide) c)
    simp only [bm_c0_v, bm_c1_v, bm_c2_v, bm_c3_v, bm_c4_v, bm_c5_v, bm_u_some, decide_eq_true_eq, true_and, and_true, and_self, Bool.not_eq_true, Bool.not_eq_true', decide_eq_false_iff_not, if_true, if_false, ite_true, ite_false, eq_self, hrs.1.2.2.2.1, hrs.1.2.2.2.2.1, hrs.1.2.2.2.2.2.1, hrs.1.2.2.2.2.2.2, hrs.1.1.1, hrs.1.2.1.1, hrs.1.2.2.1.1, hrs.pass_f cK]
    split <;> exact fin
theorem rd_lv_Sum {n : Nat} (hF : rc t f k N L fst B E num P I 4 y_X0_readProduct n) (hL : rl t f k N L fst B E num P I 10 n (fun d Φ dep op terms w => bk_X0_readSum_19 d Φ (t + 112) dep op terms w)) : rc t f k N L fst B E num P I 3 y_X0_readSum (n + 1) := by
  intro d depth s w Φ hrs hv hd hn hdd hq
  obtain ⟨d, rfl⟩ : ∃ d', d = d' + 7 := ⟨d - 7, by omega⟩
  obtain ⟨b, q⟩ := s
  have had := hrs.ad
  have hc := hrs.2.2.1
  simp only at hc
  refine vc_X0_readSum ?_
  simp only [bm_c0_v, bm_c1_v, bm_c2_v, bm_c3_v, bm_c4_v, bm_c5_v, bm_u_some, decide_eq_true_eq, true_and, and_true, and_self, Bool.not_eq_true, Bool.not_eq_true', decide_eq_false_iff_not, if_true, if_false, ite_true, ite_false, eq_self, hrs.1.2.2.2.1, hrs.1.2.2.2.2.1, hrs.1.2.2.2.2.2.1, hrs.1.2.2.2.2.2.2, hrs.1.1.1, hrs.1.2.1.1, hrs.1.2.2.1.1]
  have r1 := hrs.rng n 4 depth (q := q) (b := b) (by decide) hc.2.2.2.1 hc.2.2.2.2.1
  refine hF _ depth (b, q) _ _ hrs hv hd (by simp only at hn ⊢; simp at hn ⊢; omega) (by omega) (fun w1 h1 => ?_)
  have w1rs := hrs.mv (s' := f_ex (t_K B) L n 4 depth (b, q)) h1.1 h1.2.1 h1.2.2.1 r1.2.1 r1.2.2.1 (by omega)
  simp only [bm_c0_v, bm_c1_v, bm_c2_v, bm_c3_v, bm_c4_v, bm_c5_v, bm_u_some, decide_eq_true_eq, true_and, and_true, and_self, Bool.not_eq_true, Bool.not_eq_true', decide_eq_false_iff_not, if_true, if_false, ite_true, ite_false, eq_self, w1rs.1.2.2.2.1, w1rs.1.2.2.2.2.1, w1rs.1.2.2.2.2.2.1, w1rs.1.2.2.2.2.2.2, w1rs.1.1.1, w1rs.1.2.1.1, w1rs.1.2.2.1.1, sp_oneOf w1rs.1.1, w1rs.one]
  refine hL _ depth (f_ex (t_K B) L n 4 depth (b, q)) _ _ [m_hd (m_l (m_ex (t_K B) (t_V B) L P I E n 4 depth q []))] 1 _ w1rs (fun z => ⟨by have := r1.2.2.2 z (by decide); omega, f_ex_ve n 4 depth (b, q) (by decide) z (fun z1 => absurd z1 (by decide))⟩) hd (by simp only at hn; simp at hn; omega) (by omega) rfl (by decide) (by decide) (fun z => by have := r1.2.2.2 z (by decide); omega) (fun w5 h5 => hq w5 ?_)
  rw [f_ex_lv (by decide), m_ex_lv (by decide)]
  cases b
  · refine px_lv (lp := fun l => m_ex (t_K B) (t_V B) L P I E n 10 depth (f_ex (t_K B) L n 4 depth (false, q)).2 l) h1 h5 (fun z => ?_)
    have z1 := f_ex_ok (by decide) z
    have r2 := hrs.rng n 10 depth (q := (f_ex (t_K B) L n 4 depth (false, q)).2) (b := (f_ex (t_K B) L n 4 depth (false, q)).1) (by decide) r1.2.1 r1.2.2.1
    exact ⟨z1, r1.2.2.2 z1 (by decide), r2.1⟩
  · exact px_ded (h1.1.tr h5.1) h5.2.1 h5.2.2.1 (by rw [f_ex_fail _ _ _ _ (by decide), f_ex_fail _ _ _ _ (by decide)])
theorem rd_lp_Product {n : Nat} (hP : hp (t_K B) P I fst) (hF : rc t f k N L fst B E num P I 5 y_X0_readFactor n) (hL : rl t f k N L fst B E num P I 11 n (fun d Φ dep op terms w => bk_X0_readProduct_19 d Φ (t + 112) dep op terms w)) : rl t f k N L fst B E num P I 11 (n + 1) (fun d Φ dep op terms w => bk_X0_readProduct_19 d Φ (t + 112) dep op terms w) := by
  intro d depth s w Φ acc terms op hrs hv hd hn hdd hop ht1 ht2 ht3 hq
  obtain ⟨d, rfl⟩ : ∃ d', d = d' + 6 := ⟨d - 6, by omega⟩
  obtain ⟨b, q⟩ := s
  have had := hrs.ad
  refine vb_X0_readProduct_19 ?_
  by_cases c : f_see (t_K B) L (b, q) (f_lo 11) (f_hi 11)
  · obtain rfl : b = false := c.1
    rw [if_pos c] at hop
    have c4 : 30 ≤ t_K B q ∧ t_K B q ≤ 32 := c.2.2
    have cK : f_see (t_K B) L (false, q) op op := ⟨rfl, c.2.1, by rw [hop]; exact Int.le_refl _, by rw [hop]; exact Int.le_refl _⟩
    have c50 : ¬ (50 : Int) ≤ terms := by
      have h1 := ht3 rfl
      have h2 := hrs.2.1.2.2.2.2.2.2.1
      have h3 : q < L := c.2.1
      simp only at h1
      omega
    obtain ⟨w1rs, w1x⟩ := hrs.adv (by decide) c
    have w2rs : rs t f k N L fst B E num (false, q + 1) (bm_si (bm_si w t 8 (bm_gi w t 8 + 1)) f 8 (bm_w (bm_gi (bm_si w t 8 (bm_gi w t 8 + 1)) f 8 + 1))) := w1rs.st (fx.rf.si had.1 had.2 (by omega)) (q_gi_ne (by omega)) (q_gi_ne (by omega))
    simp only [bm_c0_v, bm_c1_v, bm_c2_v, bm_c3_v, bm_c4_v, bm_c5_v, bm_u_some, decide_eq_true_eq, true_and, and_true, and_self, Bool.not_eq_true, Bool.not_eq_true', decide_eq_false_iff_not, if_true, if_false, ite_true, ite_false, eq_self, hrs.1.2.2.2.1, hrs.1.2.2.2.2.1, hrs.1.2.2.2.2.2.1, hrs.1.2.2.2.2.2.2, hrs.1.1.1, hrs.1.2.1.1, hrs.1.2.2.1.1, hrs.pass_t cK, c50, w1rs.1.2.2.2.1, w1rs.1.2.2.2.2.1, w1rs.1.2.2.2.2.2.1, w1rs.1.2.2.2.2.2.2, w1rs.1.1.1, w1rs.1.2.1.1, w1rs.1.2.2.1.1, sp_nextPlace w1rs.1.2.2.1, w2rs.1.2.2.2.1, w2rs.1.2.2.2.2.1, w2rs.1.2.2.2.2.2.1, w2rs.1.2.2.2.2.2.2, w2rs.1.1.1, w2rs.1.2.1.1, w2rs.1.2.2.1.1, Int.reduceEq]
    have hqN : q + 1 ≤ N := w1rs.2.2.1.2.2.2.1
    have r1 := hrs.rng n 5 depth (q := q + 1) (b := false) (by decide) hqN c.2.1
    refine hF _ depth (false, q + 1) _ _ w2rs (fun _ => f_st_op (by omega)) hd (by have : q < L := c.2.1; simp only at hn ⊢; simp; omega) (by omega) (fun w3 h3 => ?_)
    have w3rs := w2rs.mv (s' := f_ex (t_K B) L n 5 depth (false, q + 1)) h3.1 h3.2.1 h3.2.2.1 r1.2.1 r1.2.2.1 (by have := hrs.2.2.1.2.2.2.2.2; simp only at this; omega)
    have w4rs : rs t f k N L fst B E num (f_ex (t_K B) L n 5 depth (false, q + 1)) (fn_emit w3 f op 0 (bm_w (bm_w (bm_gi (bm_si w t 8 (bm_gi w t 8 + 1)) f 8 + 1) - 1))) := w3rs.st (fx.rf.emit had.1 had.2) (em_k (by omega) (by omega) (by omega) (by omega)) (em_k (by omega) (by omega) (by omega) (by omega))
    simp only [bm_c0_v, bm_c1_v, bm_c2_v, bm_c3_v, bm_c4_v, bm_c5_v, bm_u_some, decide_eq_true_eq, true_and, and_true, and_self, Bool.not_eq_true, Bool.not_eq_true', decide_eq_false_iff_not, if_true, if_false, ite_true, ite_false, eq_self, w3rs.1.2.2.2.1, w3rs.1.2.2.2.2.1, w3rs.1.2.2.2.2.2.1, w3rs.1.2.2.2.2.2.2, w3rs.1.1.1, w3rs.1.2.1.1, w3rs.1.2.2.1.1, sp_emit w3rs.1.2.2.1, w4rs.1.2.2.2.1, w4rs.1.2.2.2.2.1, w4rs.1.2.2.2.2.2.1, w4rs.1.2.2.2.2.2.2, w4rs.1.1.1, w4rs.1.2.1.1, w4rs.1.2.2.1.1, sp_oneOf w4rs.1.1, w4rs.one]
    rw [q_wI (x := terms + 1) ⟨by omega, by omega⟩]
    have B4 := bin_fin (acc := acc) (by decide) hrs c (hv rfl) hP rfl h3 (fun z => ⟨r1.2.2.2 z (by decide), r1.2.2.1⟩)
    rw [← hop] at B4
    refine hL _ depth (f_ex (t_K B) L n 5 depth (false, q + 1)) _ _ (m_l (m_bind (m_ex (t_K B) (t_V B) L P I E n 5 depth (q + 1) []) (fun l z => .inr ([m_op 11 op (P q : Nat) (m_hd acc) (m_hd l)], z)))) (terms + 1) _ w4rs (fun z => ⟨?_, f_ex_ve n 5 depth (false, q + 1) (by decide) z (fun z1 => absurd z1 (by decide))⟩) hd (by have : q < L := c.2.1; simp only at hn; omega) (by omega) rfl (by omega) (by omega) (fun z => ?_) (fun w5 h5 => hq w5 ?_)
    · have := hrs.2.2.1.2.2.2.2.2; simp only at this; omega
    · have := r1.2.2.2 z (by decide); have := ht3 rfl; simp only at this; omega
    · subst hop
      exact lp_go hrs (by decide) c hqN B4 h5
  · rw [if_neg c] at hop
    have cK : ¬ f_see (t_K B) L (b, q) op op := fun z => by
      have z1 : op ≤ t_K B q ∧ t_K B q ≤ op := z.2.2
      have z2 : 0 ≤ t_K B q := (t_k_rng B (t_P B q)).1
      omega
    have fin := hq w (lp_no hrs (by decide) c)
    simp only [bm_c0_v, bm_c1_v, bm_c2_v, bm_c3_v, bm_c4_v, bm_c5_v, bm_u_some, decide_eq_true_eq, true_and, and_true, and_self, Bool.not_eq_true, Bool.not_eq_true', decide_eq_false_iff_not, if_true, if_false, ite_true, ite_false, eq_self, hrs.1.2.2.2.1, hrs.1.2.2.2.2.1, hrs.1.2.2.2.2.2.1, hrs.1.2.2.2.2.2.2, hrs.1.1.1, hrs.1.2.1.1, hrs.1.2.2.1.1, hrs.pass_f cK]
    split <;> exact fin
theorem rd_lv_Product {n : Nat} (hF : rc t f k N L fst B E num P I 5 y_X0_readFactor n) (hL : rl t f k N L fst B E num P I 11 n (fun d Φ dep op terms w => bk_X0_readProduct_19 d Φ (t + 112) dep op terms w)) : rc t f k N L fst B E num P I 4 y_X0_readProduct (n + 1) := by
  intro d depth s w Φ hrs hv hd hn hdd hq
  obtain ⟨d, rfl⟩ : ∃ d', d = d' + 7 := ⟨d - 7, by omega⟩
  obtain ⟨b, q⟩ := s
  have had := hrs.ad
  have hc := hrs.2.2.1
  simp only at hc
  refine vc_X0_readProduct ?_
  simp only [bm_c0_v, bm_c1_v, bm_c2_v, bm_c3_v, bm_c4_v, bm_c5_v, bm_u_some, decide_eq_true_eq, true_and, and_true, and_self, Bool.not_eq_true, Bool.not_eq_true', decide_eq_false_iff_not, if_true, if_false, ite_true, ite_false, eq_self, hrs.1.2.2.2.1, hrs.1.2.2.2.2.1, hrs.1.2.2.2.2.2.1, hrs.1.2.2.2.2.2.2, hrs.1.1.1, hrs.1.2.1.1, hrs.1.2.2.1.1]
  have r1 := hrs.rng n 5 depth (q := q) (b := b) (by decide) hc.2.2.2.1 hc.2.2.2.2.1
  refine hF _ depth (b, q) _ _ hrs hv hd (by simp only at hn ⊢; simp at hn ⊢; omega) (by omega) (fun w1 h1 => ?_)
  have w1rs := hrs.mv (s' := f_ex (t_K B) L n 5 depth (b, q)) h1.1 h1.2.1 h1.2.2.1 r1.2.1 r1.2.2.1 (by omega)
  simp only [bm_c0_v, bm_c1_v, bm_c2_v, bm_c3_v, bm_c4_v, bm_c5_v, bm_u_some, decide_eq_true_eq, true_and, and_true, and_self, Bool.not_eq_true, Bool.not_eq_true', decide_eq_false_iff_not, if_true, if_false, ite_true, ite_false, eq_self, w1rs.1.2.2.2.1, w1rs.1.2.2.2.2.1, w1rs.1.2.2.2.2.2.1, w1rs.1.2.2.2.2.2.2, w1rs.1.1.1, w1rs.1.2.1.1, w1rs.1.2.2.1.1, sp_oneOf w1rs.1.1, w1rs.one]
  refine hL _ depth (f_ex (t_K B) L n 5 depth (b, q)) _ _ [m_hd (m_l (m_ex (t_K B) (t_V B) L P I E n 5 depth q []))] 1 _ w1rs (fun z => ⟨by have := r1.2.2.2 z (by decide); omega, f_ex_ve n 5 depth (b, q) (by decide) z (fun z1 => absurd z1 (by decide))⟩) hd (by simp only at hn; simp at hn; omega) (by omega) rfl (by decide) (by decide) (fun z => by have := r1.2.2.2 z (by decide); omega) (fun w5 h5 => hq w5 ?_)
  rw [f_ex_lv (by decide), m_ex_lv (by decide)]
  cases b
  · refine px_lv (lp := fun l => m_ex (t_K B) (t_V B) L P I E n 11 depth (f_ex (t_K B) L n 5 depth (false, q)).2 l) h1 h5 (fun z => ?_)
    have z1 := f_ex_ok (by decide) z
    have r2 := hrs.rng n 11 depth (q := (f_ex (t_K B) L n 5 depth (false, q)).2) (b := (f_ex (t_K B) L n 5 depth (false, q)).1) (by decide) r1.2.1 r1.2.2.1
    exact ⟨z1, r1.2.2.2 z1 (by decide), r2.1⟩
  · exact px_ded (h1.1.tr h5.1) h5.2.1 h5.2.2.1 (by rw [f_ex_fail _ _ _ _ (by decide), f_ex_fail _ _ _ _ (by decide)])
end RD
