/-! ===== reading, in the class: calls, factors ===== -/
theorem m_K_sh {E : q_E} {g : Int} {q0 z1 : Nat} {X : q_M} : m_bind X (fun l2 z2 => if l2.length = E.2.2.1 g then .inr ([d_call (E.2.2.2.2 g) l2], z1 + z2 + E.2.2.2.1 g) else .inl (6, q0)) = m_add z1 (m_bind X (m_K E g q0)) := by
  cases X with
  | inl e => rfl
  | inr x =>
    show (if x.1.length = E.2.2.1 g then Sum.inr ([d_call (E.2.2.2.2 g) x.1], z1 + x.2 + E.2.2.2.1 g) else .inl (6, q0)) = m_add z1 (m_K E g q0 x.1 x.2)
    unfold m_K
    split
    · show _ = Sum.inr _
      rw [Nat.add_assoc]
    · rfl
section RD
variable {t f k N L fst : Nat} {B : Int → Int} {E : q_E} {num : Int} {P I : Nat → Nat}
/-- the arguments of a call, behind its ( -/
theorem rd_call2 {n : Nat} (hP : hp (t_K B) P I fst) (hE : he0 E num k) (hEx : rc t f k N L fst B E num P I 6 y_X0_readExpression n) (hA : ra t f k N L fst B E num P I n) {d depth q : Nat} {w w3 : bm_W} {Φ : bm_Rt → bm_W → Prop} (hrs : rs t f k N L fst B E num (false, q) w) (kq : t_K B q = 3) (c3 : f_see (t_K B) L (false, q + 1) 16 16) (hd : depth < 8) (hn : 8 * (L + 1 - q) ≤ n) (hdd : 3 * n + 6 ≤ d) {g : Int} (hg : g = E.2.1 (t_V B q)) (w3rs : rs t f k N L fst B E num (false, q + 2) w3) (x3 : fx t f w w3) (k3 : ∀ a j, a ≠ t → a ≠ t + 112 → bm_gi w3 a j = bm_gi w a j) (st3 : cp_st t w w3) (h0 : 0 ≤ g → ∀ j, bm_gi w3 (t + 112) j = bm_gi w (t + 112) j) (h1 : ¬ 0 ≤ g → bm_gi w3 (t + 112) 2 ≠ 0 ∧ (bm_gi w (t + 112) 2 = 0 → bm_gi w3 (t + 112) 2 = 2 ∧ bm_gi w3 (t + 112) 3 = t_P B q)) {dp : Int} (hdp : dp = ((depth + 1 : Nat) : Int))
    (hq : ∀ w', px t f B (f_ex (t_K B) L n 12 (depth + 1) (f_ex (t_K B) L n 6 (depth + 1) (false, q + 2))) (if g < 0 then .inl (2, q) else
          m_bind (m_ex (t_K B) (t_V B) L P I E n 6 (depth + 1) (q + 2) []) fun l1 z1 =>
          m_bind (m_ex (t_K B) (t_V B) L P I E n 12 (depth + 1) (f_ex (t_K B) L n 6 (depth + 1) (false, q + 2)).2 [m_hd l1]) fun l2 z2 =>
          if l2.length = E.2.2.1 g then .inr ([d_call (E.2.2.2.2 g) l2], z1 + z2 + E.2.2.2.1 g) else .inl (6, q)) (gx t f k fst P I E num q (f_ex (t_K B) L n 12 (depth + 1) (f_ex (t_K B) L n 6 (depth + 1) (false, q + 2))).2 w w') w w' → Φ (.inl none) w') :
    bm_Call bm_pg d y_X0_readExpression [bm_r (some (t + 112)), bm_i dp] w3 (fun r3 w3 => bm_c0 (bk_X0_readArguments_57 d Φ (t + 112) (t_P B q) (depth : Int) g (1 : Int) w3) (fun E => Φ (.inr E) w3) r3) := by
  have had := hrs.ad
  have qL : q + 1 < L := c3.2.1
  have k1 : t_K B (q + 1) = 16 := by have := c3.2.2; simp only at this; omega
  have hc := w3rs.2.2.1
  simp only at hc
  have hgr := hE.2 (t_V B q)
  rw [← hg] at hgr
  have r1 := hrs.rng n 6 (depth + 1) (q := q + 2) (b := false) (by decide) hc.2.2.2.1 hc.2.2.2.2.1
  rw [hdp]
  refine hEx _ (depth + 1) (false, q + 2) _ _ w3rs (fun _ => f_st_op (q := q + 1) (by rw [k1]; decide)) hd (by simp only; simp; omega) hdd (fun w4 h4 => ?_)
  have w4rs := w3rs.mv (s' := f_ex (t_K B) L n 6 (depth + 1) (false, q + 2)) h4.1 h4.2.1 h4.2.2.1 r1.2.1 r1.2.2.1 (by omega)
  rw [bm_c0_v]
  have ve := f_ex_ve (K := t_K B) (L := L) n 6 (depth + 1) (false, q + 2) (by decide)
  have e12 := hrs.rng n 12 (depth + 1) (q := (f_ex (t_K B) L n 6 (depth + 1) (false, q + 2)).2) (b := (f_ex (t_K B) L n 6 (depth + 1) (false, q + 2)).1) (by decide) r1.2.1 r1.2.2.1
  have e13 : (f_ex (t_K B) L n 12 (depth + 1) (f_ex (t_K B) L n 6 (depth + 1) (false, q + 2))).1 = false → (f_ex (t_K B) L n 6 (depth + 1) (false, q + 2)).1 = false := f_ex_ok (by decide)
  have e14 : (f_ex (t_K B) L n 6 (depth + 1) (false, q + 2)).2 ≤ (f_ex (t_K B) L n 12 (depth + 1) (f_ex (t_K B) L n 6 (depth + 1) (false, q + 2))).2 := e12.1
  generalize f_ex (t_K B) L n 6 (depth + 1) (false, q + 2) = s4 at *
  refine hA d depth q g s4 w4 Φ [m_hd (m_l (m_ex (t_K B) (t_V B) L P I E n 6 (depth + 1) (q + 2) []))] w4rs (fun z => ⟨by have := r1.2.2.2 z (by decide); omega, ve z (fun z1 => absurd z1 (by decide))⟩) hd (by omega) hdd ⟨hgr.1, hgr.2⟩ (fun z => ?_) (Nat.le_refl _) (by simp) (fun z => by have := r1.2.2.2 z (by decide); simp; omega) (fun w5 h5 => hq w5 ?_)
  · by_cases g0 : 0 ≤ g
    · exact Or.inl g0
    · have := (h4.2.2.2 z).1 (h1 g0).1
      exact Or.inr (by rw [this.1]; exact (h1 g0).1)
  · by_cases g0 : 0 ≤ g
    · rw [if_neg (by omega)]
      have k3' := h0 g0
      simp only [m_K_sh]
      refine px.bind (px.pre x3 k3' h4) h5.1 h5.2.1 h5.2.2.1 (fun z => ?_)
      have z1 := e13 z
      have p5 := h5.2.2.2 z
      refine ⟨z1, p5.1, fun l y hr c0 g1 => ?_⟩
      have p6 := p5.2 c0
      rw [hr] at p6
      refine p6.add (fun l2 z2 _ g2 => ?_)
      intro c0' a1 a2 a3 a4 az
      have hcf : fst ≤ q := hrs.2.2.1.2.2.2.2.2
      have q1 := (hP.1 q hcf).2 (by unfold f_pl; omega)
      have q2 := (hP.2.1 q).2 (by omega)
      have q3 := (hP.1 (q + 1) (by omega)).2 (by unfold f_pl; omega)
      have q4 := (hP.2.1 (q + 1)).2 (by omega)
      have lf3 : lf t f P I w3 c0' (q + 2) := ⟨(k3 _ _ (by omega) (by omega)).trans a1.1, by rw [k3 _ _ (by omega) (by omega), q3, q1]; exact a1.2.1, by rw [k3 _ _ (by omega) (by omega), q4, q2]; exact a1.2.2⟩
      have n9 : bm_gi w3 f 9 = bm_gi w f 9 := k3 _ _ (by omega) (by omega)
      obtain ⟨c1, d1, d2, d3, d4, d5, d6, d7⟩ := g1 c0' lf3 (by omega) (by omega) (by omega) az
      have cb1 : cb f 0 c0' w w4 := fun j a ha x hj => (d6 j a ha x hj).trans (k3 _ _ (by omega) (by omega))
      have rq := r1.2.2.2 z1 (by decide)
      have qa3 : qa t f k E num w4 c0' c1 [m_hd l] (0 + (s4.2 - (q + 2) + y)) := qa_snoc qa_nil d7 (Nat.le_refl _) (by omega) (Nat.le_refl _)
      obtain ⟨c2, i1, i2, i3, i4, i5, i6, i7⟩ := g2 c0' c1 (0 + (s4.2 - (q + 2) + y)) d1 (by omega) (by omega) (by omega) qa3 (by simp; omega) (by omega) az
      exact ⟨c2, i1, by omega, by omega, by omega, by omega, cb1.tr (i6.sub (Nat.le_refl _) (by omega)), i7.mo (by omega)⟩
    · rw [if_pos (by omega)]
      refine ⟨(x3.tr h4.1).tr h5.1, h5.2.1, h5.2.2.1, fun z => ?_⟩
      have z1 := e13 z
      have p4 := (h4.2.2.2 z1).1
      have p5 := (h5.2.2.2 z).1
      refine ⟨(st3.tr p4).tr p5, fun c0 => ?_⟩
      obtain ⟨y1, y2⟩ := h1 g0
      have y3 := y2 c0
      have y4 := (p4.tr p5) y1
      exact ⟨(show (2 : Int) ≠ 0 by decide), y4.1.trans y3.1, y4.2.trans y3.2⟩
theorem rd_call {n : Nat} (hP : hp (t_K B) P I fst) (hE : he0 E num k) (hEx : rc t f k N L fst B E num P I 6 y_X0_readExpression n) (hA : ra t f k N L fst B E num P I n) {d depth q : Nat} {w : bm_W} {Φ : bm_Rt → bm_W → Prop} (hrs : rs t f k N L fst B E num (false, q) w) (c : f_see (t_K B) L (false, q) 3 3) (c3 : f_see (t_K B) L (false, q + 1) 16 16) (hd : depth ≤ 8) (hn : 8 * (L + 1 - q) ≤ n) (hdd : 3 * n + 6 ≤ d)
    (hq : ∀ w', px t f B (f_ex (t_K B) L (n + 1) 5 depth (false, q)) (m_ex (t_K B) (t_V B) L P I E (n + 1) 5 depth q []) (gx t f k fst P I E num q (f_ex (t_K B) L (n + 1) 5 depth (false, q)).2 w w') w w' → Φ (.inl none) w') :
    bm_Call bm_pg (d + 1) y_X0_readArguments [bm_r (some (t + 112)), bm_l (t_V B q), bm_i (t_P B q), bm_i (depth : Int)] (bm_si w t 8 (bm_gi w t 8 + 1)) Φ := by
  have had := hrs.ad
  have kq : t_K B q = 3 := by have := c.2.2; simp only at this; omega
  have n2 : ¬ f_see (t_K B) L (false, q) 2 2 := fun z => by have := z.2.2; simp only at this; omega
  obtain ⟨w1rs, w1x⟩ := hrs.adv (by decide) c
  refine vc_X0_readArguments ?_
  by_cases c8 : 8 ≤ depth
  · have e1 : f_ex (t_K B) L (n + 1) 5 depth (false, q) = (true, q + 1) := by rw [f_ex_5, if_neg n2, if_pos c, if_pos c3, if_pos c8]
    obtain ⟨d, rfl⟩ : ∃ d', d = d' + 6 := ⟨d - 6, by omega⟩
    have hf := w1rs.fail
    simp only [bm_c0_v, bm_c1_v, bm_c2_v, bm_c3_v, bm_c4_v, bm_c5_v, bm_u_some, decide_eq_true_eq, true_and, and_true, and_self, Bool.not_eq_true, Bool.not_eq_true', decide_eq_false_iff_not, if_true, if_false, ite_true, ite_false, eq_self, w1rs.1.2.2.2.1, w1rs.1.2.2.2.2.1, w1rs.1.2.2.2.2.2.1, w1rs.1.2.2.2.2.2.2, w1rs.1.1.1, w1rs.1.2.1.1, w1rs.1.2.2.1.1, sp_fail w1rs.1.1]
    rw [if_neg (by omega)]
    refine hq _ ?_
    rw [e1]
    exact px_ded (w1x.tr hf.2) hf.1.2.2.1.1 hf.1.2.2.1.2.1 rfl
  · have e1 : f_ex (t_K B) L (n + 1) 5 depth (false, q) = f_ex (t_K B) L n 12 (depth + 1) (f_ex (t_K B) L n 6 (depth + 1) (false, q + 2)) := by rw [f_ex_5, if_neg n2, if_pos c, if_pos c3, if_neg c8]
    have e2 : m_ex (t_K B) (t_V B) L P I E (n + 1) 5 depth q [] = if E.2.1 (t_V B q) < 0 then .inl (2, q) else
          m_bind (m_ex (t_K B) (t_V B) L P I E n 6 (depth + 1) (q + 2) []) fun l1 z1 =>
          m_bind (m_ex (t_K B) (t_V B) L P I E n 12 (depth + 1) (f_ex (t_K B) L n 6 (depth + 1) (false, q + 2)).2 [m_hd l1]) fun l2 z2 =>
          if l2.length = E.2.2.1 (E.2.1 (t_V B q)) then .inr ([d_call (E.2.2.2.2 (E.2.1 (t_V B q))) l2], z1 + z2 + E.2.2.2.1 (E.2.1 (t_V B q))) else .inl (6, q) := by rw [m_ex_5, if_neg n2, if_pos c, if_pos c3]
    rw [e1, e2] at hq
    have c8i : (depth : Int) < 8 := by omega
    have dp : bm_w ((depth : Int) + 1) = ((depth + 1 : Nat) : Int) := by rw [q_wI ⟨by omega, by omega⟩]; omega
    have hd8 : depth < 8 := Nat.lt_of_not_le c8
    obtain ⟨w2rs, w2x⟩ := w1rs.adv (by decide) c3
    have w2rs : rs t f k N L fst B E num (false, q + 2) (bm_si (bm_si w t 8 (bm_gi w t 8 + 1)) t 8 (bm_gi (bm_si w t 8 (bm_gi w t 8 + 1)) t 8 + 1)) := w2rs
    have x2 := w1x.tr w2x
    have h6 : bm_gi (bm_si (bm_si w t 8 (bm_gi w t 8 + 1)) t 8 (bm_gi (bm_si w t 8 (bm_gi w t 8 + 1)) t 8 + 1)) (t + 4) 4 ≤ 6 := by
      have a1 := w2rs.2.2.2.1
      have a2 := w2rs.2.1.2.2.2.2.2.1
      omega
    have nm := w2rs.2.2.2.2.2.2.1 (t_V B q)
    have k2 : ∀ a j, a ≠ t → bm_gi (bm_si (bm_si w t 8 (bm_gi w t 8 + 1)) t 8 (bm_gi (bm_si w t 8 (bm_gi w t 8 + 1)) t 8 + 1)) a j = bm_gi w a j := fun a j ha => by rw [q_gi_ne ha, q_gi_ne ha]
    obtain ⟨d, rfl⟩ : ∃ d', d = d' + 6 := ⟨d - 6, by omega⟩
    simp only [bm_c0_v, bm_c1_v, bm_c2_v, bm_c3_v, bm_c4_v, bm_c5_v, bm_u_some, decide_eq_true_eq, true_and, and_true, and_self, Bool.not_eq_true, Bool.not_eq_true', decide_eq_false_iff_not, if_true, if_false, ite_true, ite_false, eq_self, w1rs.1.2.2.2.1, w1rs.1.2.2.2.2.1, w1rs.1.2.2.2.2.2.1, w1rs.1.2.2.2.2.2.2, w1rs.1.1.1, w1rs.1.2.1.1, w1rs.1.2.2.1.1, w1rs.exp_t c3, w2rs.1.2.2.2.1, w2rs.1.2.2.2.2.1, w2rs.1.2.2.2.2.2.1, w2rs.1.2.2.2.2.2.2, w2rs.1.1.1, w2rs.1.2.1.1, w2rs.1.2.2.1.1, sp_funNamed w2rs.1.2.1 h6, nm]
    rw [if_pos c8i]
    have hkc : t + 112 ≠ t := by omega
    generalize bm_si (bm_si w t 8 (bm_gi w t 8 + 1)) t 8 (bm_gi (bm_si w t 8 (bm_gi w t 8 + 1)) t 8 + 1) = w2 at *
    by_cases g0 : 0 ≤ E.2.1 (t_V B q)
    · rw [if_pos g0]
      exact rd_call2 hP hE hEx hA hrs kq c3 hd8 hn hdd rfl w2rs x2 (fun a j h1 _ => k2 a j h1) (cp_st.eq (fun j => k2 _ _ hkc)) (fun _ j => k2 _ _ hkc) (fun z => absurd g0 z) dp hq
    · rw [if_neg g0]
      have w3rs := w2rs.st (w' := cp_put w2 (t + 112) 2 (t_P B q)) (fx.rf.put had.1 had.2) (put_k (by omega)) (put_k (by omega))
      have p0 : bm_gi (cp_put w2 (t + 112) 2 (t_P B q)) (t + 112) 2 ≠ 0 := by
        by_cases y : bm_gi w2 (t + 112) 2 = 0
        · rw [(put_is y).1]; decide
        · rw [(put_st y).1]; exact y
      have x3 := x2.put (e := 2) (a := t_P B q) had.1 had.2
      simp only [bm_c0_v, bm_c1_v, bm_c2_v, bm_c3_v, bm_c4_v, bm_c5_v, bm_u_some, decide_eq_true_eq, true_and, and_true, and_self, Bool.not_eq_true, Bool.not_eq_true', decide_eq_false_iff_not, if_true, if_false, ite_true, ite_false, eq_self, sp_complain w2rs.1.2.2.2.1, w3rs.1.2.2.2.1, w3rs.1.2.2.2.2.1, w3rs.1.2.2.2.2.2.1, w3rs.1.2.2.2.2.2.2, w3rs.1.1.1, w3rs.1.2.1.1, w3rs.1.2.2.1.1]
      exact rd_call2 hP hE hEx hA hrs kq c3 hd8 hn hdd rfl w3rs x3 (fun a j h1 h2 => (put_k h2).trans (k2 a j h1)) ((cp_st.eq (fun j => k2 _ _ hkc)).tr put_st) (fun z => absurd z g0) (fun _ => ⟨p0, fun y => put_is ((k2 _ _ hkc).trans y)⟩) dp hq
end RD
