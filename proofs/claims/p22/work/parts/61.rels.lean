/-! ===== reading, in the class: relations, and, or ===== -/
theorem m_is.bind {t : Nat} {B : Int → Int} {w1 w2 : bm_W} {r1 : q_M} {r2 : List q_D → Nat → q_M} {G1 G : List q_D → Nat → Prop} (h1 : m_is t B w1 r1 G1) (hs : cp_st t w1 w2) (h2 : ∀ l z, r1 = .inr (l, z) → bm_gi w1 (t + 112) 2 = 0 → G1 l z → m_is t B w2 (r2 l z) G) : m_is t B w2 (m_bind r1 r2) G := by
  cases r1 with
  | inl e =>
    obtain ⟨q1, q2, q3⟩ := h1
    have := hs (by rw [q2]; exact q1)
    exact ⟨q1, this.1.trans q2, this.2.trans q3⟩
  | inr x =>
    obtain ⟨l, y⟩ := x
    exact h2 l y rfl h1.1 h1.2
section RD
variable {t f k N L fst : Nat} {B : Int → Int} {E : q_E} {num : Int} {P I : Nat → Nat}
theorem rs.endSecond {d : Nat} {j : Int} {s : Bool × Nat} {w : bm_W} {Φ : bm_Rt → bm_W → Prop} (h : rs t f k N L fst B E num s w) : bm_Call bm_pg (d + 2) y_X0_endSecond [bm_r (some (t + 112)), bm_i j] w Φ ↔ Φ (.inl none) (if 0 ≤ j ∧ j < 100 then bm_si (fn_emit w f 37 0 (-1)) (f + 6) j.toNat (bm_gi (fn_emit w f 37 0 (-1)) f 7) else fn_emit w f 37 0 (-1)) := by
  refine bm_ans (fun Ψ q => vc_X0_endSecond ?_)
  have had := h.ad
  have h4 : rs t f k N L fst B E num s (fn_emit w f 37 0 (-1)) := h.st (fx.rf.emit had.1 had.2) (em_k (by omega) (by omega) (by omega) (by omega)) (em_k (by omega) (by omega) (by omega) (by omega))
  simp only [bm_c0_v, bm_c1_v, bm_c2_v, bm_c3_v, bm_c4_v, bm_c5_v, bm_u_some, decide_eq_true_eq, true_and, and_true, and_self, Bool.not_eq_true, Bool.not_eq_true', decide_eq_false_iff_not, if_true, if_false, ite_true, ite_false, eq_self, h.1.2.2.2.1, h.1.2.2.2.2.1, h.1.2.2.2.2.2.1, h.1.2.2.2.2.2.2, h.1.1.1, h.1.2.1.1, h.1.2.2.1.1, sp_emit h.1.2.2.1, h4.1.2.2.2.1, h4.1.2.2.2.2.1, h4.1.2.2.2.2.2.1, h4.1.2.2.2.2.2.2, h4.1.1.1, h4.1.2.1.1, h4.1.2.2.1.1, sp_aim h4.1.2.2.1]
  exact q
theorem rd_rel {n : Nat} (hP : hp (t_K B) P I fst) (hF : rc t f k N L fst B E num P I 3 y_X0_readSum (n + 1)) (hF0 : rc t f k N L fst B E num P I 3 y_X0_readSum n) : rc t f k N L fst B E num P I 2 y_X0_readRelation (n + 2) := by
  intro d depth s w Φ hrs hv hd hn hdd hq
  obtain ⟨d, rfl⟩ : ∃ d', d = d' + 7 := ⟨d - 7, by omega⟩
  obtain ⟨b, q⟩ := s
  have had := hrs.ad
  have hc := hrs.2.2.1
  simp only at hc
  refine vc_X0_readRelation ?_
  simp only [bm_c0_v, bm_c1_v, bm_c2_v, bm_c3_v, bm_c4_v, bm_c5_v, bm_u_some, decide_eq_true_eq, true_and, and_true, and_self, Bool.not_eq_true, Bool.not_eq_true', decide_eq_false_iff_not, if_true, if_false, ite_true, ite_false, eq_self, hrs.1.2.2.2.1, hrs.1.2.2.2.2.1, hrs.1.2.2.2.2.2.1, hrs.1.2.2.2.2.2.2, hrs.1.1.1, hrs.1.2.1.1, hrs.1.2.2.1.1]
  have r1 := hrs.rng (n + 1) 3 depth (q := q) (b := b) (by decide) hc.2.2.2.1 hc.2.2.2.2.1
  refine hF _ depth (b, q) _ _ hrs hv hd (by simp only at hn ⊢; simp at hn ⊢; omega) (by omega) (fun w1 h1 => ?_)
  have w1rs := hrs.mv (s' := f_ex (t_K B) L (n + 1) 3 depth (b, q)) h1.1 h1.2.1 h1.2.2.1 r1.2.1 r1.2.2.1 (by omega)
  simp only [bm_c0_v, bm_c1_v, bm_c2_v, bm_c3_v, bm_c4_v, bm_c5_v, bm_u_some, decide_eq_true_eq, true_and, and_true, and_self, Bool.not_eq_true, Bool.not_eq_true', decide_eq_false_iff_not, if_true, if_false, ite_true, ite_false, eq_self, w1rs.1.2.2.2.1, w1rs.1.2.2.2.2.1, w1rs.1.2.2.2.2.2.1, w1rs.1.2.2.2.2.2.2, w1rs.1.1.1, w1rs.1.2.1.1, w1rs.1.2.2.1.1, sp_oneOf w1rs.1.1, w1rs.one]
  have fin : ∀ w5, px t f B (f_ex (t_K B) L (n + 1) 9 depth (f_ex (t_K B) L (n + 1) 3 depth (b, q))) (m_ex (t_K B) (t_V B) L P I E (n + 1) 9 depth (f_ex (t_K B) L (n + 1) 3 depth (b, q)).2 [m_hd (m_l (m_ex (t_K B) (t_V B) L P I E (n + 1) 3 depth q []))]) (gl t f k fst P I E num [m_hd (m_l (m_ex (t_K B) (t_V B) L P I E (n + 1) 3 depth q []))] (f_ex (t_K B) L (n + 1) 3 depth (b, q)).2 (f_ex (t_K B) L (n + 1) 9 depth (f_ex (t_K B) L (n + 1) 3 depth (b, q))).2 w1 w5) w1 w5 → Φ (.inl none) w5 := by
    intro w5 h5
    refine hq w5 ?_
    rw [f_ex_lv (by decide), m_ex_lv (by decide)]
    cases b
    · refine px_lv (lp := fun l => m_ex (t_K B) (t_V B) L P I E (n + 1) 9 depth (f_ex (t_K B) L (n + 1) 3 depth (false, q)).2 l) h1 h5 (fun z => ?_)
      have z1 := f_ex_ok (by decide) z
      have r2 := hrs.rng (n + 1) 9 depth (q := (f_ex (t_K B) L (n + 1) 3 depth (false, q)).2) (b := (f_ex (t_K B) L (n + 1) 3 depth (false, q)).1) (by decide) r1.2.1 r1.2.2.1
      exact ⟨z1, r1.2.2.2 z1 (by decide), r2.1⟩
    · exact px_ded (h1.1.tr h5.1) h5.2.1 h5.2.2.1 (by rw [f_ex_fail _ _ _ _ (by decide), f_ex_fail _ _ _ _ (by decide)])
  have ve := f_ex_ve (K := t_K B) (L := L) (n + 1) 3 depth (b, q) (by decide)
  generalize f_ex (t_K B) L (n + 1) 3 depth (b, q) = s1 at h1 w1rs r1 fin ve ⊢
  generalize [m_hd (m_l (m_ex (t_K B) (t_V B) L P I E (n + 1) 3 depth q []))] = acc at fin
  by_cases c : f_see (t_K B) L s1 22 27
  · rw [if_pos c]
    have c4 : 22 ≤ t_K B s1.2 ∧ t_K B s1.2 ≤ 27 := c.2.2
    have cK : f_see (t_K B) L s1 (t_K B s1.2) (t_K B s1.2) := ⟨c.1, c.2.1, Int.le_refl _, Int.le_refl _⟩
    obtain ⟨w2rs, w2x⟩ := w1rs.adv (by decide) c
    have w3rs : rs t f k N L fst B E num (false, s1.2 + 1) (bm_si (bm_si w1 t 8 (bm_gi w1 t 8 + 1)) f 8 (bm_w (bm_gi (bm_si w1 t 8 (bm_gi w1 t 8 + 1)) f 8 + 1))) := w2rs.st (fx.rf.si had.1 had.2 (by omega)) (q_gi_ne (by omega)) (q_gi_ne (by omega))
    simp only [bm_c0_v, bm_c1_v, bm_c2_v, bm_c3_v, bm_c4_v, bm_c5_v, bm_u_some, decide_eq_true_eq, true_and, and_true, and_self, Bool.not_eq_true, Bool.not_eq_true', decide_eq_false_iff_not, if_true, if_false, ite_true, ite_false, eq_self, w1rs.1.2.2.2.1, w1rs.1.2.2.2.2.1, w1rs.1.2.2.2.2.2.1, w1rs.1.2.2.2.2.2.2, w1rs.1.1.1, w1rs.1.2.1.1, w1rs.1.2.2.1.1, w1rs.pass_t cK, w2rs.1.2.2.2.1, w2rs.1.2.2.2.2.1, w2rs.1.2.2.2.2.2.1, w2rs.1.2.2.2.2.2.2, w2rs.1.1.1, w2rs.1.2.1.1, w2rs.1.2.2.1.1, sp_nextPlace w2rs.1.2.2.1, w3rs.1.2.2.2.1, w3rs.1.2.2.2.2.1, w3rs.1.2.2.2.2.2.1, w3rs.1.2.2.2.2.2.2, w3rs.1.1.1, w3rs.1.2.1.1, w3rs.1.2.2.1.1, Int.reduceEq]
    have hqN : s1.2 + 1 ≤ N := w2rs.2.2.1.2.2.2.1
    have r2 := w1rs.rng n 3 depth (q := s1.2 + 1) (b := false) (by decide) hqN c.2.1
    refine hF0 _ depth (false, s1.2 + 1) _ _ w3rs (fun _ => f_st_op (by omega)) hd (by have : s1.2 < L := c.2.1; simp only at hn ⊢; simp at hn ⊢; omega) (by omega) (fun w4 h4 => ?_)
    have w4rs := w3rs.mv (s' := f_ex (t_K B) L n 3 depth (false, s1.2 + 1)) h4.1 h4.2.1 h4.2.2.1 r2.2.1 r2.2.2.1 (by omega)
    have w5rs : rs t f k N L fst B E num (f_ex (t_K B) L n 3 depth (false, s1.2 + 1)) (fn_emit w4 f (t_K B s1.2) 0 (bm_w (bm_w (bm_gi (bm_si w1 t 8 (bm_gi w1 t 8 + 1)) f 8 + 1) - 1))) := w4rs.st (fx.rf.emit had.1 had.2) (em_k (by omega) (by omega) (by omega) (by omega)) (em_k (by omega) (by omega) (by omega) (by omega))
    simp only [bm_c0_v, bm_c1_v, bm_c2_v, bm_c3_v, bm_c4_v, bm_c5_v, bm_u_some, decide_eq_true_eq, true_and, and_true, and_self, Bool.not_eq_true, Bool.not_eq_true', decide_eq_false_iff_not, if_true, if_false, ite_true, ite_false, eq_self, w4rs.1.2.2.2.1, w4rs.1.2.2.2.2.1, w4rs.1.2.2.2.2.2.1, w4rs.1.2.2.2.2.2.2, w4rs.1.1.1, w4rs.1.2.1.1, w4rs.1.2.2.1.1, sp_emit w4rs.1.2.2.1]
    refine fin _ ?_
    have sq := f_eta c.1
    have vv : fst < s1.2 ∧ f_ve (t_K B) s1.2 := ⟨by have := r1.2.2.2 c.1 (by decide); omega, ve c.1 (fun z => absurd z (by decide))⟩
    have B4 := bin_fin (u := 9) (acc := acc) (by decide) w1rs c vv hP rfl h4 (fun z => ⟨r2.2.2.2 z (by decide), r2.2.2.1⟩)
    have e1 : f_ex (t_K B) L (n + 1) 9 depth s1 = f_ex (t_K B) L n 3 depth (false, s1.2 + 1) := by
      rw [f_ex_lp (by decide) (by decide), if_pos (show f_see (t_K B) L s1 (f_lo 9) (f_hi 9) from c), if_pos rfl]
    have c' : f_see (t_K B) L (false, s1.2) (f_lo 9) (f_hi 9) := by rw [← sq]; exact c
    rw [e1, m_ex_lp (by decide) (by decide), if_pos c']
    exact B4
  · rw [if_neg c]
    have cK : ¬ f_see (t_K B) L s1 (-1) (-1) := fun z => by
      have z1 : -1 ≤ t_K B s1.2 ∧ t_K B s1.2 ≤ -1 := z.2.2
      have z2 : 0 ≤ t_K B s1.2 := (t_k_rng B (t_P B s1.2)).1
      omega
    simp only [bm_c0_v, bm_c1_v, bm_c2_v, bm_c3_v, bm_c4_v, bm_c5_v, bm_u_some, decide_eq_true_eq, true_and, and_true, and_self, Bool.not_eq_true, Bool.not_eq_true', decide_eq_false_iff_not, if_true, if_false, ite_true, ite_false, eq_self, w1rs.1.2.2.2.1, w1rs.1.2.2.2.2.1, w1rs.1.2.2.2.2.2.1, w1rs.1.2.2.2.2.2.2, w1rs.1.1.1, w1rs.1.2.1.1, w1rs.1.2.2.1.1, w1rs.pass_f cK]
    exact fin w1 (lp_no w1rs (by decide) c)
theorem rd_lp_Expression {n : Nat} (hP : hp (t_K B) P I fst) (hF : rc t f k N L fst B E num P I 1 y_X0_readBoth n) (hL : rl t f k N L fst B E num P I 7 n (fun d Φ dep op terms w => bk_X0_readExpression_25 d Φ (t + 112) dep terms w)) : rl t f k N L fst B E num P I 7 (n + 1) (fun d Φ dep op terms w => bk_X0_readExpression_25 d Φ (t + 112) dep terms w) := by
  intro d depth s w Φ acc terms op hrs hv hd hn hdd hop ht1 ht2 ht3 hq
  obtain ⟨d, rfl⟩ : ∃ d', d = d' + 6 := ⟨d - 6, by omega⟩
  obtain ⟨b, q⟩ := s
  have had := hrs.ad
  refine vb_X0_readExpression_25 ?_
  by_cases c : f_see (t_K B) L (b, q) (f_lo 7) (f_hi 7)
  · obtain rfl : b = false := c.1
    have c4 : 10 ≤ t_K B q ∧ t_K B q ≤ 10 := c.2.2
    have c' : f_see (t_K B) L (false, q) 10 10 := c
    have c50 : ¬ (50 : Int) ≤ terms := by
      have h1 := ht3 rfl
      have h2 := hrs.2.1.2.2.2.2.2.2.1
      have h3 : q < L := c.2.1
      simp only at h1
      omega
    obtain ⟨w1rs, w1x⟩ := hrs.adv (by decide) c
    have w2rs : rs t f k N L fst B E num (false, q + 1) (bm_si (bm_si w t 8 (bm_gi w t 8 + 1)) f 8 (bm_w (bm_gi (bm_si w t 8 (bm_gi w t 8 + 1)) f 8 + 1))) := w1rs.st (fx.rf.si had.1 had.2 (by omega)) (q_gi_ne (by omega)) (q_gi_ne (by omega))
    have w3rs := w2rs.st (fx.rf.emit (op := 10) (a := 0) (q := bm_w (bm_w (bm_gi (bm_si w t 8 (bm_gi w t 8 + 1)) f 8 + 1) - 1)) had.1 had.2) (em_k (by omega) (by omega) (by omega) (by omega)) (em_k (by omega) (by omega) (by omega) (by omega))
    simp only [bm_c0_v, bm_c1_v, bm_c2_v, bm_c3_v, bm_c4_v, bm_c5_v, bm_u_some, decide_eq_true_eq, true_and, and_true, and_self, Bool.not_eq_true, Bool.not_eq_true', decide_eq_false_iff_not, if_true, if_false, ite_true, ite_false, eq_self, hrs.1.2.2.2.1, hrs.1.2.2.2.2.1, hrs.1.2.2.2.2.2.1, hrs.1.2.2.2.2.2.2, hrs.1.1.1, hrs.1.2.1.1, hrs.1.2.2.1.1, hrs.pass_t c', c50, w1rs.1.2.2.2.1, w1rs.1.2.2.2.2.1, w1rs.1.2.2.2.2.2.1, w1rs.1.2.2.2.2.2.2, w1rs.1.1.1, w1rs.1.2.1.1, w1rs.1.2.2.1.1, sp_nextPlace w1rs.1.2.2.1, w2rs.1.2.2.2.1, w2rs.1.2.2.2.2.1, w2rs.1.2.2.2.2.2.1, w2rs.1.2.2.2.2.2.2, w2rs.1.1.1, w2rs.1.2.1.1, w2rs.1.2.2.1.1, sp_emit w2rs.1.2.2.1, w3rs.1.2.2.2.1, w3rs.1.2.2.2.2.1, w3rs.1.2.2.2.2.2.1, w3rs.1.2.2.2.2.2.2, w3rs.1.1.1, w3rs.1.2.1.1, w3rs.1.2.2.1.1, Int.reduceEq]
    have hqN : q + 1 ≤ N := w1rs.2.2.1.2.2.2.1
    have r1 := hrs.rng n 1 depth (q := q + 1) (b := false) (by decide) hqN c.2.1
    refine hF _ depth (false, q + 1) _ _ w3rs (fun _ => f_st_op (by omega)) hd (by have : q < L := c.2.1; simp only at hn ⊢; simp; omega) (by omega) (fun w3 h3 => ?_)
    have w4rs := w3rs.mv (s' := f_ex (t_K B) L n 1 depth (false, q + 1)) h3.1 h3.2.1 h3.2.2.1 r1.2.1 r1.2.2.1 (by have := hrs.2.2.1.2.2.2.2.2; simp only at this; omega)
    simp only [bm_c0_v, bm_c1_v, bm_c2_v, bm_c3_v, bm_c4_v, bm_c5_v, bm_u_some, decide_eq_true_eq, true_and, and_true, and_self, Bool.not_eq_true, Bool.not_eq_true', decide_eq_false_iff_not, if_true, if_false, ite_true, ite_false, eq_self, w4rs.1.2.2.2.1, w4rs.1.2.2.2.2.1, w4rs.1.2.2.2.2.2.1, w4rs.1.2.2.2.2.2.2, w4rs.1.1.1, w4rs.1.2.1.1, w4rs.1.2.2.1.1, w4rs.endSecond]
    rw [q_wI (x := terms + 1) ⟨by omega, by omega⟩]
    have B4 := lo_fin (u := 7) (acc := acc) (by decide) hrs c hP rfl h3 (fun z => ⟨r1.2.2.2 z (by decide), r1.2.2.1⟩) rfl rfl
    have w5rs := w4rs.st ((fx.rf.emit (op := 37) (a := 0) (q := -1) had.1 had.2).aim (j := bm_gi (bm_si (bm_si w t 8 (bm_gi w t 8 + 1)) f 8 (bm_w (bm_gi (bm_si w t 8 (bm_gi w t 8 + 1)) f 8 + 1))) f 7) had.1 had.2) (by
      split
      · rw [q_gi_ne (by omega), em_k (by omega) (by omega) (by omega) (by omega)]
      · rw [em_k (by omega) (by omega) (by omega) (by omega)]) (by
      split
      · rw [q_gi_ne (by omega), em_k (by omega) (by omega) (by omega) (by omega)]
      · rw [em_k (by omega) (by omega) (by omega) (by omega)])
    refine hL _ depth (f_ex (t_K B) L n 1 depth (false, q + 1)) _ _ (m_l (m_bind (m_ex (t_K B) (t_V B) L P I E n 1 depth (q + 1) []) (fun l z => .inr ([m_op 7 (t_K B q) (P q : Nat) (m_hd acc) (m_hd l)], z)))) (terms + 1) _ w5rs (fun z => ⟨?_, f_ex_ve n 1 depth (false, q + 1) (by decide) z (fun z1 => absurd z1 (by decide))⟩) hd (by have : q < L := c.2.1; simp only at hn; omega) (by omega) rfl (by omega) (by omega) (fun z => ?_) (fun w5 h5 => hq w5 ?_)
    · have := hrs.2.2.1.2.2.2.2.2; simp only at this; omega
    · have := r1.2.2.2 z (by decide); have := ht3 rfl; simp only at this; omega
    · exact lp_go hrs (by decide) c hqN B4 h5
  · have c' : ¬ f_see (t_K B) L (b, q) 10 10 := c
    have fin := hq w (lp_no hrs (by decide) c)
    simp only [bm_c0_v, bm_c1_v, bm_c2_v, bm_c3_v, bm_c4_v, bm_c5_v, bm_u_some, decide_eq_true_eq, true_and, and_true, and_self, Bool.not_eq_true, Bool.not_eq_true', decide_eq_false_iff_not, if_true, if_false, ite_true, ite_false, eq_self, hrs.1.2.2.2.1, hrs.1.2.2.2.2.1, hrs.1.2.2.2.2.2.1, hrs.1.2.2.2.2.2.2, hrs.1.1.1, hrs.1.2.1.1, hrs.1.2.2.1.1, hrs.pass_f c']
    split <;> exact fin
theorem rd_lp_Both {n : Nat} (hP : hp (t_K B) P I fst) (hF : rc t f k N L fst B E num P I 2 y_X0_readRelation n) (hL : rl t f k N L fst B E num P I 8 n (fun d Φ dep op terms w => bk_X0_readBoth_7 d Φ (t + 112) dep terms w)) : rl t f k N L fst B E num P I 8 (n + 1) (fun d Φ dep op terms w => bk_X0_readBoth_7 d Φ (t + 112) dep terms w) := by
  intro d depth s w Φ acc terms op hrs hv hd hn hdd hop ht1 ht2 ht3 hq
  obtain ⟨d, rfl⟩ : ∃ d', d = d' + 6 := ⟨d - 6, by omega⟩
  obtain ⟨b, q⟩ := s
  have had := hrs.ad
  refine vb_X0_readBoth_7 ?_
  by_cases c : f_see (t_K B) L (b, q) (f_lo 8) (f_hi 8)
  · obtain rfl : b = false := c.1
    have c4 : 9 ≤ t_K B q ∧ t_K B q ≤ 9 := c.2.2
    have c' : f_see (t_K B) L (false, q) 9 9 := c
    have c50 : ¬ (50 : Int) ≤ terms := by
      have h1 := ht3 rfl
      have h2 := hrs.2.1.2.2.2.2.2.2.1
      have h3 : q < L := c.2.1
      simp only at h1
      omega
    obtain ⟨w1rs, w1x⟩ := hrs.adv (by decide) c
    have w2rs : rs t f k N L fst B E num (false, q + 1) (bm_si (bm_si w t 8 (bm_gi w t 8 + 1)) f 8 (bm_w (bm_gi (bm_si w t 8 (bm_gi w t 8 + 1)) f 8 + 1))) := w1rs.st (fx.rf.si had.1 had.2 (by omega)) (q_gi_ne (by omega)) (q_gi_ne (by omega))
    have w3rs := w2rs.st (fx.rf.emit (op := 9) (a := 0) (q := bm_w (bm_w (bm_gi (bm_si w t 8 (bm_gi w t 8 + 1)) f 8 + 1) - 1)) had.1 had.2) (em_k (by omega) (by omega) (by omega) (by omega)) (em_k (by omega) (by omega) (by omega) (by omega))
    simp only [bm_c0_v, bm_c1_v, bm_c2_v, bm_c3_v, bm_c4_v, bm_c5_v, bm_u_some, decide_eq_true_eq, true_and, and_true, and_self, Bool.not_eq_true, Bool.not_eq_true', decide_eq_false_iff_not, if_true, if_false, ite_true, ite_false, eq_self, hrs.1.2.2.2.1, hrs.1.2.2.2.2.1, hrs.1.2.2.2.2.2.1, hrs.1.2.2.2.2.2.2, hrs.1.1.1, hrs.1.2.1.1, hrs.1.2.2.1.1, hrs.pass_t c', c50, w1rs.1.2.2.2.1, w1rs.1.2.2.2.2.1, w1rs.1.2.2.2.2.2.1, w1rs.1.2.2.2.2.2.2, w1rs.1.1.1, w1rs.1.2.1.1, w1rs.1.2.2.1.1, sp_nextPlace w1rs.1.2.2.1, w2rs.1.2.2.2.1, w2rs.1.2.2.2.2.1, w2rs.1.2.2.2.2.2.1, w2rs.1.2.2.2.2.2.2, w2rs.1.1.1, w2rs.1.2.1.1, w2rs.1.2.2.1.1, sp_emit w2rs.1.2.2.1, w3rs.1.2.2.2.1, w3rs.1.2.2.2.2.1, w3rs.1.2.2.2.2.2.1, w3rs.1.2.2.2.2.2.2, w3rs.1.1.1, w3rs.1.2.1.1, w3rs.1.2.2.1.1, Int.reduceEq]
    have hqN : q + 1 ≤ N := w1rs.2.2.1.2.2.2.1
    have r1 := hrs.rng n 2 depth (q := q + 1) (b := false) (by decide) hqN c.2.1
    refine hF _ depth (false, q + 1) _ _ w3rs (fun _ => f_st_op (by omega)) hd (by have : q < L := c.2.1; simp only at hn ⊢; simp; omega) (by omega) (fun w3 h3 => ?_)
    have w4rs := w3rs.mv (s' := f_ex (t_K B) L n 2 depth (false, q + 1)) h3.1 h3.2.1 h3.2.2.1 r1.2.1 r1.2.2.1 (by have := hrs.2.2.1.2.2.2.2.2; simp only at this; omega)
    simp only [bm_c0_v, bm_c1_v, bm_c2_v, bm_c3_v, bm_c4_v, bm_c5_v, bm_u_some, decide_eq_true_eq, true_and, and_true, and_self, Bool.not_eq_true, Bool.not_eq_true', decide_eq_false_iff_not, if_true, if_false, ite_true, ite_false, eq_self, w4rs.1.2.2.2.1, w4rs.1.2.2.2.2.1, w4rs.1.2.2.2.2.2.1, w4rs.1.2.2.2.2.2.2, w4rs.1.1.1, w4rs.1.2.1.1, w4rs.1.2.2.1.1, w4rs.endSecond]
    rw [q_wI (x := terms + 1) ⟨by omega, by omega⟩]
    have B4 := lo_fin (u := 8) (acc := acc) (by decide) hrs c hP rfl h3 (fun z => ⟨r1.2.2.2 z (by decide), r1.2.2.1⟩) rfl rfl
    have w5rs := w4rs.st ((fx.rf.emit (op := 37) (a := 0) (q := -1) had.1 had.2).aim (j := bm_gi (bm_si (bm_si w t 8 (bm_gi w t 8 + 1)) f 8 (bm_w (bm_gi (bm_si w t 8 (bm_gi w t 8 + 1)) f 8 + 1))) f 7) had.1 had.2) (by
      split
      · rw [q_gi_ne (by omega), em_k (by omega) (by omega) (by omega) (by omega)]
      · rw [em_k (by omega) (by omega) (by omega) (by omega)]) (by
      split
      · rw [q_gi_ne (by omega), em_k (by omega) (by omega) (by omega) (by omega)]
      · rw [em_k (by omega) (by omega) (by omega) (by omega)])
    refine hL _ depth (f_ex (t_K B) L n 2 depth (false, q + 1)) _ _ (m_l (m_bind (m_ex (t_K B) (t_V B) L P I E n 2 depth (q + 1) []) (fun l z => .inr ([m_op 8 (t_K B q) (P q : Nat) (m_hd acc) (m_hd l)], z)))) (terms + 1) _ w5rs (fun z => ⟨?_, f_ex_ve n 2 depth (false, q + 1) (by decide) z (fun z1 => absurd z1 (by decide))⟩) hd (by have : q < L := c.2.1; simp only at hn; omega) (by omega) rfl (by omega) (by omega) (fun z => ?_) (fun w5 h5 => hq w5 ?_)
    · have := hrs.2.2.1.2.2.2.2.2; simp only at this; omega
    · have := r1.2.2.2 z (by decide); have := ht3 rfl; simp only at this; omega
    · exact lp_go hrs (by decide) c hqN B4 h5
  · have c' : ¬ f_see (t_K B) L (b, q) 9 9 := c
    have fin := hq w (lp_no hrs (by decide) c)
    simp only [bm_c0_v, bm_c1_v, bm_c2_v, bm_c3_v, bm_c4_v, bm_c5_v, bm_u_some, decide_eq_true_eq, true_and, and_true, and_self, Bool.not_eq_true, Bool.not_eq_true', decide_eq_false_iff_not, if_true, if_false, ite_true, ite_false, eq_self, hrs.1.2.2.2.1, hrs.1.2.2.2.2.1, hrs.1.2.2.2.2.2.1, hrs.1.2.2.2.2.2.2, hrs.1.1.1, hrs.1.2.1.1, hrs.1.2.2.1.1, hrs.pass_f c']
    split <;> exact fin
theorem rd_lv_Both {n : Nat} (hF : rc t f k N L fst B E num P I 2 y_X0_readRelation n) (hL : rl t f k N L fst B E num P I 8 n (fun d Φ dep op terms w => bk_X0_readBoth_7 d Φ (t + 112) dep terms w)) : rc t f k N L fst B E num P I 1 y_X0_readBoth (n + 1) := by
  intro d depth s w Φ hrs hv hd hn hdd hq
  obtain ⟨d, rfl⟩ : ∃ d', d = d' + 7 := ⟨d - 7, by omega⟩
  obtain ⟨b, q⟩ := s
  have had := hrs.ad
  have hc := hrs.2.2.1
  simp only at hc
  refine vc_X0_readBoth ?_
  simp only [bm_c0_v, bm_c1_v, bm_c2_v, bm_c3_v, bm_c4_v, bm_c5_v, bm_u_some, decide_eq_true_eq, true_and, and_true, and_self, Bool.not_eq_true, Bool.not_eq_true', decide_eq_false_iff_not, if_true, if_false, ite_true, ite_false, eq_self, hrs.1.2.2.2.1, hrs.1.2.2.2.2.1, hrs.1.2.2.2.2.2.1, hrs.1.2.2.2.2.2.2, hrs.1.1.1, hrs.1.2.1.1, hrs.1.2.2.1.1]
  have r1 := hrs.rng n 2 depth (q := q) (b := b) (by decide) hc.2.2.2.1 hc.2.2.2.2.1
  refine hF _ depth (b, q) _ _ hrs hv hd (by simp only at hn ⊢; simp at hn ⊢; omega) (by omega) (fun w1 h1 => ?_)
  have w1rs := hrs.mv (s' := f_ex (t_K B) L n 2 depth (b, q)) h1.1 h1.2.1 h1.2.2.1 r1.2.1 r1.2.2.1 (by omega)
  simp only [bm_c0_v, bm_c1_v, bm_c2_v, bm_c3_v, bm_c4_v, bm_c5_v, bm_u_some, decide_eq_true_eq, true_and, and_true, and_self, Bool.not_eq_true, Bool.not_eq_true', decide_eq_false_iff_not, if_true, if_false, ite_true, ite_false, eq_self]
  refine hL _ depth (f_ex (t_K B) L n 2 depth (b, q)) _ _ [m_hd (m_l (m_ex (t_K B) (t_V B) L P I E n 2 depth q []))] 1 _ w1rs (fun z => ⟨by have := r1.2.2.2 z (by decide); omega, f_ex_ve n 2 depth (b, q) (by decide) z (fun z1 => absurd z1 (by decide))⟩) hd (by simp only at hn; simp at hn; omega) (by omega) rfl (by decide) (by decide) (fun z => by have := r1.2.2.2 z (by decide); omega) (fun w5 h5 => hq w5 ?_)
  rw [f_ex_lv (by decide), m_ex_lv (by decide)]
  cases b
  · refine px_lv (lp := fun l => m_ex (t_K B) (t_V B) L P I E n 8 depth (f_ex (t_K B) L n 2 depth (false, q)).2 l) h1 h5 (fun z => ?_)
    have z1 := f_ex_ok (by decide) z
    have r2 := hrs.rng n 8 depth (q := (f_ex (t_K B) L n 2 depth (false, q)).2) (b := (f_ex (t_K B) L n 2 depth (false, q)).1) (by decide) r1.2.1 r1.2.2.1
    exact ⟨z1, r1.2.2.2 z1 (by decide), r2.1⟩
  · exact px_ded (h1.1.tr h5.1) h5.2.1 h5.2.2.1 (by rw [f_ex_fail _ _ _ _ (by decide), f_ex_fail _ _ _ _ (by decide)])
end RD
