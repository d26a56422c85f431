/-! ===== reading, in the class: names, factors; all of it ===== -/
section RD
variable {t f k N L fst : Nat} {B : Int → Int} {E : q_E} {num : Int} {P I : Nat → Nat}
/-- one instruction that one token makes -/
theorem one_fin {q : Nat} {w w1 : bm_W} {op x pl : Int} {D : q_D} (hrs : rs t f k N L fst B E num (false, q) w) (x1 : fx t f w w1) (k1 : ∀ j, bm_gi w1 (t + 112) j = bm_gi w (t + 112) j) (g8 : bm_gi w1 t 8 = ((q + 1 : Nat) : Int)) (g10 : bm_gi w1 t 10 = 0) (n9 : bm_gi w1 f 9 = bm_gi w f 9) (cbw : ∀ y, cb f 0 y w w1) (lfw : ∀ c0, lf t f P I w c0 q → lf t f P I w1 c0 (q + 1)) (hqL : q < L)
    (hD : ∀ (w2 : bm_W) (c : Nat), lf t f P I w c q → bm_gi w2 (f + 5) c = op → bm_gi w2 (f + 6) c = x → bm_gi w2 (f + 7) c = pl → qs t f k E num w2 c (c + 1) D 1) :
    px t f B (false, q + 1) (.inr ([D], 0)) (gx t f k fst P I E num q (q + 1) w (fn_emit w1 f op x pl)) w (fn_emit w1 f op x pl) := by
  have had := hrs.ad
  have b7 := hrs.2.1.2.2.2.2.2.2.1
  have kk : ∀ a j, a ≠ f → a ≠ f + 5 → a ≠ f + 6 → a ≠ f + 7 → bm_gi (fn_emit w1 f op x pl) a j = bm_gi w1 a j := fun a j p1 p2 p3 p4 => em_k (by omega) p2 p3 p4
  have kc : ∀ j, bm_gi (fn_emit w1 f op x pl) (t + 112) j = bm_gi w (t + 112) j := fun j => (kk _ _ (by omega) (by omega) (by omega) (by omega)).trans (k1 j)
  refine ⟨x1.emit had.1 had.2, ?_, ?_, fun _ => ⟨cp_st.eq kc, fun h0 => ⟨(kc 2).trans h0, ?_⟩⟩⟩
  · rw [kk _ _ (by omega) (by omega) (by omega) (by omega)]; exact g8
  · rw [kk _ _ (by omega) (by omega) (by omega) (by omega)]; exact g10
  · intro c0 a1 a2 a3 a4 az
    have l1 := lfw c0 a1
    obtain ⟨e1, e2, e3, e4, e5⟩ := em_c (op := op) (x := x) (q := pl) l1.1 (by omega)
    refine ⟨c0 + 1, ⟨e1, ?_, ?_⟩, by omega, by omega, ?_, by omega, (cbw c0).tr (fun j a ha _ hj => e5 j a ha (by omega)), ?_⟩
    · rw [em_k (by omega) (by omega) (by omega) (by omega)]; exact l1.2.1
    · rw [em_k (by omega) (by omega) (by omega) (by omega)]; exact l1.2.2
    · rw [em_k (by omega) (by omega) (by omega) (by omega), n9]; omega
    · exact (hD _ c0 a1 e2 e3 e4).mo (by omega)
theorem rd_named {n : Nat} (hP : hp (t_K B) P I fst) (hE : he0 E num k) (hEx : rc t f k N L fst B E num P I 6 y_X0_readExpression n) (hA : ra t f k N L fst B E num P I n) {d depth q : Nat} {w : bm_W} {Φ : bm_Rt → bm_W → Prop} (hrs : rs t f k N L fst B E num (false, q) w) (c : f_see (t_K B) L (false, q) 3 3) (hd : depth ≤ 8) (hn : 8 * (L + 1 - q) ≤ n) (hdd : 3 * n + 6 ≤ d)
    (hq : ∀ w', px t f B (f_ex (t_K B) L (n + 1) 5 depth (false, q)) (m_ex (t_K B) (t_V B) L P I E (n + 1) 5 depth q []) (gx t f k fst P I E num q (f_ex (t_K B) L (n + 1) 5 depth (false, q)).2 w w') w w' → Φ (.inl none) w') :
    bm_Call bm_pg (d + 2) y_X0_readNamed [bm_r (some (t + 112)), bm_l (t_V B q), bm_i (t_P B q), bm_i (depth : Int)] (bm_si w t 8 (bm_gi w t 8 + 1)) Φ := by
  have had := hrs.ad
  have kq : t_K B q = 3 := by have := c.2.2; simp only at this; omega
  have n2 : ¬ f_see (t_K B) L (false, q) 2 2 := fun z => by have := z.2.2; simp only at this; omega
  have hqL : q < L := c.2.1
  obtain ⟨w1rs, w1x⟩ := hrs.adv (by decide) c
  refine vc_X0_readNamed ?_
  by_cases c3 : f_see (t_K B) L (false, q + 1) 16 16
  · simp only [bm_c0_v, bm_c1_v, bm_c2_v, bm_c3_v, bm_c4_v, bm_c5_v, bm_u_some, decide_eq_true_eq, true_and, and_true, and_self, Bool.not_eq_true, Bool.not_eq_true', decide_eq_false_iff_not, if_true, if_false, ite_true, ite_false, eq_self, w1rs.1.2.2.2.1, w1rs.1.2.2.2.2.1, w1rs.1.2.2.2.2.2.1, w1rs.1.2.2.2.2.2.2, w1rs.1.1.1, w1rs.1.2.1.1, w1rs.1.2.2.1.1, w1rs.see_t c3, Int.reduceEq]
    exact rd_call hP hE hEx hA hrs c c3 hd hn hdd hq
  · have e1 : f_ex (t_K B) L (n + 1) 5 depth (false, q) = (false, q + 1) := by rw [f_ex_5, if_neg n2, if_pos c, if_neg c3]
    have e2 : m_ex (t_K B) (t_V B) L P I E (n + 1) 5 depth q [] = if E.1 (t_V B q) < 0 then .inl (2, q) else .inr ([d_in (E.1 (t_V B q)).toNat], 0) := by rw [m_ex_5, if_neg n2, if_pos c, if_neg c3]
    rw [e1, e2] at hq
    have nm := w1rs.2.2.2.2.2.1 (t_V B q)
    have hir := hE.1 (t_V B q)
    simp only [bm_c0_v, bm_c1_v, bm_c2_v, bm_c3_v, bm_c4_v, bm_c5_v, bm_u_some, decide_eq_true_eq, true_and, and_true, and_self, Bool.not_eq_true, Bool.not_eq_true', decide_eq_false_iff_not, if_true, if_false, ite_true, ite_false, eq_self, w1rs.1.2.2.2.1, w1rs.1.2.2.2.2.1, w1rs.1.2.2.2.2.2.1, w1rs.1.2.2.2.2.2.2, w1rs.1.1.1, w1rs.1.2.1.1, w1rs.1.2.2.1.1, w1rs.see_f c3, sp_inputNamed w1rs.1.2.2.1, nm]
    have k1 : ∀ a j, a ≠ t → bm_gi (bm_si w t 8 (bm_gi w t 8 + 1)) a j = bm_gi w a j := fun a j ha => q_gi_ne ha
    have g8 : bm_gi (bm_si w t 8 (bm_gi w t 8 + 1)) t 8 = ((q + 1 : Nat) : Int) := w1rs.2.2.1.1
    have g10 : bm_gi (bm_si w t 8 (bm_gi w t 8 + 1)) t 10 = 0 := w1rs.2.2.1.2.1
    generalize bm_si w t 8 (bm_gi w t 8 + 1) = w1 at *
    by_cases g0 : 0 ≤ E.1 (t_V B q)
    · rw [if_pos g0]
      rw [if_neg (by omega)] at hq
      simp only [bm_c0_v, bm_c1_v, bm_c2_v, bm_c3_v, bm_c4_v, bm_c5_v, bm_u_some, decide_eq_true_eq, true_and, and_true, and_self, Bool.not_eq_true, Bool.not_eq_true', decide_eq_false_iff_not, if_true, if_false, ite_true, ite_false, eq_self, sp_emit w1rs.1.2.2.1]
      have q1 := (hP.1 q hrs.2.2.1.2.2.2.2.2).2 (by unfold f_pl; omega)
      have q2 := (hP.2.1 q).2 (by omega)
      refine hq _ (one_fin hrs w1x (fun j => k1 _ _ (by omega)) g8 g10 (k1 _ _ (by omega)) (fun y j a ha _ _ => k1 _ _ (by omega)) (fun c0 l => ⟨(k1 _ _ (by omega)).trans l.1, by rw [k1 _ _ (by omega), q1]; exact l.2.1, by rw [k1 _ _ (by omega), q2]; exact l.2.2⟩) hqL (fun w2 c0 _ h5 h6 _ => ?_))
      exact qs_in h5 (by rw [h6]; omega) (by omega)
    · rw [if_neg g0]
      rw [if_pos (by omega)] at hq
      have w2rs := w1rs.st (w' := cp_put w1 (t + 112) 2 (t_P B q)) (fx.rf.put had.1 had.2) (put_k (by omega)) (put_k (by omega))
      simp only [bm_c0_v, bm_c1_v, bm_c2_v, bm_c3_v, bm_c4_v, bm_c5_v, bm_u_some, decide_eq_true_eq, true_and, and_true, and_self, Bool.not_eq_true, Bool.not_eq_true', decide_eq_false_iff_not, if_true, if_false, ite_true, ite_false, eq_self, sp_complain w1rs.1.2.2.2.1, w2rs.1.2.2.2.1, w2rs.1.2.2.2.2.1, w2rs.1.2.2.2.2.2.1, w2rs.1.2.2.2.2.2.2, w2rs.1.1.1, w2rs.1.2.1.1, w2rs.1.2.2.1.1, sp_emit w2rs.1.2.2.1]
      have w3rs := w2rs.emitted (op := 34) (x := E.1 (t_V B q)) (q := -1)
      have kc : ∀ j, bm_gi (fn_emit (cp_put w1 (t + 112) 2 (t_P B q)) f 34 (E.1 (t_V B q)) (-1)) (t + 112) j = bm_gi (cp_put w1 (t + 112) 2 (t_P B q)) (t + 112) j := fun j => em_k (by omega) (by omega) (by omega) (by omega)
      refine hq _ ⟨(w1x.put had.1 had.2).emit had.1 had.2, w3rs.2.2.1.1, w3rs.2.2.1.2.1, fun _ => ⟨((cp_st.eq (fun j => k1 _ _ (by omega))).tr put_st).tr (cp_st.eq kc), fun h0 => ?_⟩⟩
      have := put_is (w := w1) (e := 2) (x := t_P B q) ((k1 (t + 112) 2 (by omega)).trans h0)
      exact ⟨(show (2 : Int) ≠ 0 by decide), (kc 2).trans this.1, (kc 3).trans this.2⟩
/-- a sign in front -/
theorem rd_sign {n op : Nat} (ho : op = 36 ∨ op = 11) (hP : hp (t_K B) P I fst) {d depth q : Nat} {w w1 : bm_W} {Φ : bm_Rt → bm_W → Prop} (hF : rc t f k N L fst B E num P I 5 y_X0_readFactor n) (hrs : rs t f k N L fst B E num (false, q) w) (hst : f_st (t_K B) fst q) (kq : t_K B q = (if op = 36 then 29 else 11)) (w1rs : rs t f k N L fst B E num (false, q + 1) w1) (x1 : fx t f w w1) (k1 : ∀ a j, a ≠ t → bm_gi w1 a j = bm_gi w a j) (hqL : q < L) (hd : depth < 8) (hn : 8 * (L + 1 - (q + 1)) + 1 ≤ n) (hdd : 3 * n ≤ d) {dp : Int} (hdp : dp = ((depth + 1 : Nat) : Int))
    (hq : ∀ w', px t f B (f_ex (t_K B) L n 5 (depth + 1) (false, q + 1)) (m_bind (m_ex (t_K B) (t_V B) L P I E n 5 (depth + 1) (q + 1) []) fun l z => .inr ([d_un (if t_K B q = 29 then 36 else 11) (m_hd l)], z)) (gx t f k fst P I E num q (f_ex (t_K B) L n 5 (depth + 1) (false, q + 1)).2 w w') w w' → Φ (.inl none) w') :
    bm_Call bm_pg (d + 6) y_X0_readFactor [bm_r (some (t + 112)), bm_i dp] w1 (fun r9 w9 => bm_c0 ((bm_kt w9 (t + 112) = 0 ∧ bm_gr w9 (t + 112) 4 = some (bm_u (bm_gr w9 (t + 112) 4))) ∧ (bm_kt w9 (bm_u (bm_gr w9 (t + 112) 4)) = 1) ∧ bm_Call bm_pg (d + 6) y_X1_emit [bm_r (some (bm_u (bm_gr w9 (t + 112) 4))), bm_i (op : Int), bm_i (0 : Int), bm_i (-1 : Int)] w9 (fun r10 w10 => bm_c1 (fun x10 => Φ (.inl none) w10) (fun E => Φ (.inr E) w10) r10)) (fun E => Φ (.inr E) w9) r9) := by
  have had := hrs.ad
  have b1 := w1rs.2.2.1
  have b7 := hrs.2.1.2.2.2.2.2.2.1
  simp only at b1
  rw [hdp]
  have r1 := hrs.rng n 5 (depth + 1) (q := q + 1) (b := false) (by decide) b1.2.2.2.1 b1.2.2.2.2.1
  refine hF _ (depth + 1) (false, q + 1) _ _ w1rs (fun _ => f_st_op (by split at kq <;> omega)) hd (by simp only; simp; omega) (by omega) (fun w3 h3 => ?_)
  have w3rs := w1rs.mv (s' := f_ex (t_K B) L n 5 (depth + 1) (false, q + 1)) h3.1 h3.2.1 h3.2.2.1 r1.2.1 r1.2.2.1 (by omega)
  have w4rs := w3rs.emitted (op := (op : Int)) (x := 0) (q := -1)
  simp only [bm_c0_v, bm_c1_v, bm_c2_v, bm_c3_v, bm_c4_v, bm_c5_v, bm_u_some, decide_eq_true_eq, true_and, and_true, and_self, Bool.not_eq_true, Bool.not_eq_true', decide_eq_false_iff_not, if_true, if_false, ite_true, ite_false, eq_self, w3rs.1.2.2.2.1, w3rs.1.2.2.2.2.1, w3rs.1.2.2.2.2.2.1, w3rs.1.2.2.2.2.2.2, w3rs.1.1.1, w3rs.1.2.1.1, w3rs.1.2.2.1.1, sp_emit w3rs.1.2.2.1]
  refine hq _ ?_
  have kc : ∀ j, bm_gi (fn_emit w3 f (op : Int) 0 (-1)) (t + 112) j = bm_gi w3 (t + 112) j := fun j => em_k (by omega) (by omega) (by omega) (by omega)
  refine px.bind (px.pre x1 (fun j => k1 _ _ (by omega)) h3) (fx.rf.emit had.1 had.2) w4rs.2.2.1.1 w4rs.2.2.1.2.1 (fun z => ⟨z, cp_st.eq kc, fun l y hr c0 g1 => ⟨(kc 2).trans c0, ?_⟩⟩)
  intro c0' a1 a2 a3 a4 az
  have q1 := (hP.1 q hrs.2.2.1.2.2.2.2.2).2 (fun z => by
    unfold f_pl at z
    have h29 : t_K B q = 29 := by split at kq <;> omega
    exact hst (by have := z; rcases this with h | h | h | h | h
                  · omega
                  · omega
                  · omega
                  · omega
                  · exact h.2.2 h29))
  have q2 := (hP.2.1 q).2 (by split at kq <;> omega)
  have lf1 : lf t f P I w1 c0' (q + 1) := ⟨(k1 _ _ (by omega)).trans a1.1, by rw [k1 _ _ (by omega), q1]; exact a1.2.1, by rw [k1 _ _ (by omega), q2]; exact a1.2.2⟩
  have n9 : bm_gi w1 f 9 = bm_gi w f 9 := k1 _ _ (by omega)
  obtain ⟨c1, d1, d2, d3, d4, d5, d6, d7⟩ := g1 c0' lf1 (by omega) (by omega) (by omega) az
  have rz := r1.2.2.2 z (by decide)
  have rL := r1.2.2.1
  obtain ⟨e1, e2, e3, e4, e5⟩ := em_c (op := (op : Int)) (x := 0) (q := -1) d1.1 (by omega)
  have cb4 : cb f 0 c1 w3 (fn_emit w3 f (op : Int) 0 (-1)) := fun j a ha _ hj => e5 j a ha (by omega)
  have cbw : cb f 0 c0' w w1 := fun j a ha _ _ => k1 _ _ (by omega)
  refine ⟨c1 + 1, ⟨e1, ?_, ?_⟩, by omega, by omega, ?_, by omega, (cbw.tr d6).tr (cb4.sub (Nat.le_refl _) (by omega)), ?_⟩
  · rw [em_k (by omega) (by omega) (by omega) (by omega)]; exact d1.2.1
  · rw [em_k (by omega) (by omega) (by omega) (by omega)]; exact d1.2.2
  · rw [em_k (by omega) (by omega) (by omega) (by omega), d4, n9]
  · have eo : (if t_K B q = 29 then (36 : Int) else 11) = (op : Int) := by
      rcases ho with rfl | rfl
      · rw [if_pos (by rw [kq]; rfl)]; rfl
      · rw [if_neg (by rw [kq]; decide)]; rfl
    rw [eo]
    have := qs_un (d7.fr (cb4.sub (Nat.zero_le _) (Nat.le_refl _))) (by omega) e2 e4 (by omega) (by omega)
    exact this.mo (by omega)
theorem rd_factor {n : Nat} (hP : hp (t_K B) P I fst) (hE : he0 E num k) (hEx : rc t f k N L fst B E num P I 6 y_X0_readExpression n) (hF : rc t f k N L fst B E num P I 5 y_X0_readFactor n) (hA : ra t f k N L fst B E num P I n) : rc t f k N L fst B E num P I 5 y_X0_readFactor (n + 1) := by
  intro d depth s w Φ hrs hv hd hn hdd hq
  obtain ⟨d, rfl⟩ : ∃ d', d = d' + 9 := ⟨d - 9, by omega⟩
  obtain ⟨b, q⟩ := s
  have had := hrs.ad
  have hc := hrs.2.2.1
  simp only at hc hn
  have hn' : 8 * (L + 1 - q) + 1 ≤ n + 1 := by simp at hn; omega
  have hN5 := hrs.2.1.2.1
  refine vc_X0_readFactor ?_
  have fl := hrs.fail
  have dead : f_ex (t_K B) L (n + 1) 5 depth (b, q) = (true, q) → Φ (.inl none) (bm_si w t 10 1) := fun e => hq _ (by
    rw [e]
    exact px_ded fl.2 fl.1.2.2.1.1 fl.1.2.2.1.2.1 rfl)
  by_cases c2 : f_see (t_K B) L (b, q) 2 2
  · obtain rfl : b = false := c2.1
    have kq : t_K B q = 2 := by have := c2.2.2; simp only at this; omega
    have hqL : q < L := c2.2.1
    obtain ⟨w1rs, w1x⟩ := hrs.adv (by decide) c2
    have w2rs : rs t f k N L fst B E num (false, q + 1) (bm_si (bm_si w t 8 (bm_gi w t 8 + 1)) f 8 (bm_w (bm_gi (bm_si w t 8 (bm_gi w t 8 + 1)) f 8 + 1))) := w1rs.st (fx.rf.si had.1 had.2 (by omega)) (q_gi_ne (by omega)) (q_gi_ne (by omega))
    have hV := t_V_num kq
    simp only [bm_c0_v, bm_c1_v, bm_c2_v, bm_c3_v, bm_c4_v, bm_c5_v, bm_u_some, decide_eq_true_eq, true_and, and_true, and_self, Bool.not_eq_true, Bool.not_eq_true', decide_eq_false_iff_not, if_true, if_false, ite_true, ite_false, eq_self, hrs.1.2.2.2.1, hrs.1.2.2.2.2.1, hrs.1.2.2.2.2.2.1, hrs.1.2.2.2.2.2.2, hrs.1.1.1, hrs.1.2.1.1, hrs.1.2.2.1.1, sp_valueHere hrs.1.1, hrs.value, sp_startHere hrs.1.1, hrs.start, hrs.pass_t c2, Int.reduceEq, w1rs.1.2.2.2.1, w1rs.1.2.2.2.2.1, w1rs.1.2.2.2.2.2.1, w1rs.1.2.2.2.2.2.2, w1rs.1.1.1, w1rs.1.2.1.1, w1rs.1.2.2.1.1, sp_nextPlace w1rs.1.2.2.1, w2rs.1.2.2.2.1, w2rs.1.2.2.2.2.1, w2rs.1.2.2.2.2.2.1, w2rs.1.2.2.2.2.2.2, w2rs.1.1.1, w2rs.1.2.1.1, w2rs.1.2.2.1.1, sp_emit w2rs.1.2.2.1, q_wI (x := t_V B q) ⟨by omega, by omega⟩]
    have e1 : f_ex (t_K B) L (n + 1) 5 depth (false, q) = (false, q + 1) := by rw [f_ex_5, if_pos c2]
    have e2 : m_ex (t_K B) (t_V B) L P I E (n + 1) 5 depth q [] = .inr ([d_num (t_V B q) (P q : Nat)], 0) := by rw [m_ex_5, if_pos c2]
    simp only [e1, e2] at hq
    have hpl := (hP.1 q hc.2.2.2.2.2).1 (by unfold f_pl; omega)
    have hI := (hP.2.1 q).2 (by omega)
    refine hq _ (one_fin hrs (w1x.si had.1 had.2 (by omega)) (fun j => by rw [q_gi_ne (by omega), q_gi_ne (by omega)]) w2rs.2.2.1.1 w2rs.2.2.1.2.1 (by rw [q_gi_nk (by decide), q_gi_ne (by omega)]) (fun y j a ha _ _ => by rw [q_gi_ne (by omega), q_gi_ne (by omega)]) (fun c0 l => (lf.next l (by omega) hP.2.2.1 had.1 hpl hI rfl).1) hqL (fun w3 c0 l h5 h6 h7 => ?_))
    exact qs_num h5 h6 (h7.trans (lf.next l (by omega) hP.2.2.1 had.1 hpl hI rfl).2) hV
  by_cases c3 : f_see (t_K B) L (b, q) 3 3
  · obtain rfl : b = false := c3.1
    obtain ⟨w1rs, w1x⟩ := hrs.adv (by decide) c3
    simp only [bm_c0_v, bm_c1_v, bm_c2_v, bm_c3_v, bm_c4_v, bm_c5_v, bm_u_some, decide_eq_true_eq, true_and, and_true, and_self, Bool.not_eq_true, Bool.not_eq_true', decide_eq_false_iff_not, if_true, if_false, ite_true, ite_false, eq_self, hrs.1.2.2.2.1, hrs.1.2.2.2.2.1, hrs.1.2.2.2.2.2.1, hrs.1.2.2.2.2.2.2, hrs.1.1.1, hrs.1.2.1.1, hrs.1.2.2.1.1, sp_valueHere hrs.1.1, hrs.value, sp_startHere hrs.1.1, hrs.start, hrs.pass_f c2, hrs.pass_t c3, Int.reduceEq, w1rs.1.2.2.2.1, w1rs.1.2.2.2.2.1, w1rs.1.2.2.2.2.2.1, w1rs.1.2.2.2.2.2.2, w1rs.1.1.1, w1rs.1.2.1.1, w1rs.1.2.2.1.1]
    exact rd_named (d := d + 6) hP hE hEx hA hrs c3 hd (by omega) (by omega) hq
  by_cases c8 : 8 ≤ depth
  · have e1 : f_ex (t_K B) L (n + 1) 5 depth (b, q) = (true, q) := by rw [f_ex_5, if_neg c2, if_neg c3, if_pos c8]
    simp only [bm_c0_v, bm_c1_v, bm_c2_v, bm_c3_v, bm_c4_v, bm_c5_v, bm_u_some, decide_eq_true_eq, true_and, and_true, and_self, Bool.not_eq_true, Bool.not_eq_true', decide_eq_false_iff_not, if_true, if_false, ite_true, ite_false, eq_self, hrs.1.2.2.2.1, hrs.1.2.2.2.2.1, hrs.1.2.2.2.2.2.1, hrs.1.2.2.2.2.2.2, hrs.1.1.1, hrs.1.2.1.1, hrs.1.2.2.1.1, sp_valueHere hrs.1.1, hrs.value, sp_startHere hrs.1.1, hrs.start, hrs.pass_f c2, hrs.pass_f c3, sp_fail hrs.1.1]
    rw [if_neg (by omega)]
    exact dead e1
  have c8i : (depth : Int) < 8 := by omega
  have dp : bm_w ((depth : Int) + 1) = ((depth + 1 : Nat) : Int) := by rw [q_wI ⟨by omega, by omega⟩]; omega
  have hd8 : depth < 8 := Nat.lt_of_not_le c8
  by_cases c4 : f_see (t_K B) L (b, q) 16 16
  · obtain rfl : b = false := c4.1
    have kq : t_K B q = 16 := by have := c4.2.2; simp only at this; omega
    have hqL : q < L := c4.2.1
    obtain ⟨w1rs, w1x⟩ := hrs.adv (by decide) c4
    have b1 := w1rs.2.2.1
    simp only at b1
    simp only [bm_c0_v, bm_c1_v, bm_c2_v, bm_c3_v, bm_c4_v, bm_c5_v, bm_u_some, decide_eq_true_eq, true_and, and_true, and_self, Bool.not_eq_true, Bool.not_eq_true', decide_eq_false_iff_not, if_true, if_false, ite_true, ite_false, eq_self, hrs.1.2.2.2.1, hrs.1.2.2.2.2.1, hrs.1.2.2.2.2.2.1, hrs.1.2.2.2.2.2.2, hrs.1.1.1, hrs.1.2.1.1, hrs.1.2.2.1.1, sp_valueHere hrs.1.1, hrs.value, sp_startHere hrs.1.1, hrs.start, hrs.pass_f c2, hrs.pass_f c3, hrs.pass_t c4, Int.reduceEq, w1rs.1.2.2.2.1, w1rs.1.2.2.2.2.1, w1rs.1.2.2.2.2.2.1, w1rs.1.2.2.2.2.2.2, w1rs.1.1.1, w1rs.1.2.1.1, w1rs.1.2.2.1.1, dp]
    rw [if_pos c8i]
    have k1 : ∀ a j, a ≠ t → bm_gi (bm_si w t 8 (bm_gi w t 8 + 1)) a j = bm_gi w a j := fun a j ha => q_gi_ne ha
    generalize bm_si w t 8 (bm_gi w t 8 + 1) = w1 at *
    have r1 := hrs.rng n 6 (depth + 1) (q := q + 1) (b := false) (by decide) b1.2.2.2.1 b1.2.2.2.2.1
    refine hEx _ (depth + 1) (false, q + 1) _ _ w1rs (fun _ => f_st_op (by omega)) hd8 (by simp only; simp; omega) (by omega) (fun w3 h3 => ?_)
    have w3rs := w1rs.mv (s' := f_ex (t_K B) L n 6 (depth + 1) (false, q + 1)) h3.1 h3.2.1 h3.2.2.1 r1.2.1 r1.2.2.1 (by omega)
    simp only [bm_c0_v, bm_c1_v, bm_c2_v, bm_c3_v, bm_c4_v, bm_c5_v, bm_u_some, decide_eq_true_eq, true_and, and_true, and_self, Bool.not_eq_true, Bool.not_eq_true', decide_eq_false_iff_not, if_true, if_false, ite_true, ite_false, eq_self, w3rs.1.2.2.2.1, w3rs.1.2.2.2.2.1, w3rs.1.2.2.2.2.2.1, w3rs.1.2.2.2.2.2.2, w3rs.1.1.1, w3rs.1.2.1.1, w3rs.1.2.2.1.1]
    refine w3rs.exp (by decide) (fun x4 w4 w4rs x4f l4 => ?_)
    simp only [bm_c0_v, bm_c1_v, bm_c2_v, bm_c3_v, bm_c4_v, bm_c5_v, bm_u_some, decide_eq_true_eq, true_and, and_true, and_self, Bool.not_eq_true, Bool.not_eq_true', decide_eq_false_iff_not, if_true, if_false, ite_true, ite_false, eq_self]
    refine hq _ ?_
    have e1 : f_ex (t_K B) L (n + 1) 5 depth (false, q) = f_exp (t_K B) L 17 (f_ex (t_K B) L n 6 (depth + 1) (false, q + 1)) := by rw [f_ex_5, if_neg c2, if_neg c3, if_neg c8, if_pos c4]
    have e2 : m_ex (t_K B) (t_V B) L P I E (n + 1) 5 depth q [] = m_ex (t_K B) (t_V B) L P I E n 6 (depth + 1) (q + 1) [] := by rw [m_ex_5, if_neg c2, if_neg c3, if_pos c4]
    rw [e1]
    simp only [e2]
    have ok := fun z => f_exp_ok (K := t_K B) (L := L) (k := 17) (s := f_ex (t_K B) L n 6 (depth + 1) (false, q + 1)) z
    generalize f_ex (t_K B) L n 6 (depth + 1) (false, q + 1) = s1 at *
    refine ⟨(w1x.tr h3.1).tr x4f, w4rs.2.2.1.1, w4rs.2.2.1.2.1, fun z => ?_⟩
    obtain ⟨z1, z2⟩ := ok z
    have p3 := h3.2.2.2 z1.1
    have kc4 : ∀ j, bm_gi w4 (t + 112) j = bm_gi w3 (t + 112) j := fun j => l4 _ _ (by omega)
    have kc1 : ∀ j, bm_gi w1 (t + 112) j = bm_gi w (t + 112) j := fun j => k1 _ _ (by omega)
    refine ⟨((cp_st.eq kc1).tr p3.1).tr (cp_st.eq kc4), fun h0 => ?_⟩
    have p4 := p3.2 ((kc1 2).trans h0)
    have p5 : m_is t B w4 (m_ex (t_K B) (t_V B) L P I E n 6 (depth + 1) (q + 1) []) (gx t f k fst P I E num (q + 1) s1.2 w1 w3) := by
      unfold m_is at p4 ⊢
      cases hr : m_ex (t_K B) (t_V B) L P I E n 6 (depth + 1) (q + 1) [] with
      | inl e =>
        rw [hr] at p4
        exact ⟨p4.1, (kc4 2).trans p4.2.1, (kc4 3).trans p4.2.2⟩
      | inr x =>
        rw [hr] at p4
        exact ⟨(kc4 2).trans p4.1, p4.2⟩
    refine p5.mo (fun l y _ g1 => ?_)
    rw [z2]
    intro c0' a1 a2 a3 a4 az
    have k17 : t_K B s1.2 = 17 := by have := z1.2.2; omega
    have q1 := (hP.1 q hc.2.2.2.2.2).2 (by unfold f_pl; omega)
    have q2 := (hP.2.1 q).2 (by omega)
    have rz := r1.2.2.2 z1.1 (by decide)
    have q3 := (hP.1 s1.2 (by omega)).2 (by unfold f_pl; omega)
    have q4 := (hP.2.1 s1.2).2 (by omega)
    have lf1 : lf t f P I w1 c0' (q + 1) := ⟨(k1 _ _ (by omega)).trans a1.1, by rw [k1 _ _ (by omega), q1]; exact a1.2.1, by rw [k1 _ _ (by omega), q2]; exact a1.2.2⟩
    have n9 : bm_gi w1 f 9 = bm_gi w f 9 := k1 _ _ (by omega)
    obtain ⟨c1, d1, d2, d3, d4, d5, d6, d7⟩ := g1 c0' lf1 (by omega) (by omega) (by omega) az
    have l4' : ∀ a j, a ≠ t → bm_gi w4 a j = bm_gi w3 a j := l4
    refine ⟨c1, ⟨(l4' _ _ (by omega)).trans d1.1, ?_, ?_⟩, d2, by simp only; omega, ?_, by simp only; omega, ?_, ?_⟩
    · rw [l4' _ _ (by omega)]; simp only; rw [q3]; exact d1.2.1
    · rw [l4' _ _ (by omega)]; simp only; rw [q4]; exact d1.2.2
    · rw [l4' _ _ (by omega), d4, n9]
    · intro j a ha x hj
      rw [l4' _ _ (by omega), d6 j a ha x hj, k1 _ _ (by omega)]
    · have := d7.fr (w' := w4) (fun j a ha _ _ => l4' _ _ (by omega))
      exact this.mo (by simp only; omega)
  by_cases c5 : f_see (t_K B) L (b, q) 29 29
  · obtain rfl : b = false := c5.1
    have kq : t_K B q = 29 := by have := c5.2.2; simp only at this; omega
    have hqL : q < L := c5.2.1
    obtain ⟨w1rs, w1x⟩ := hrs.adv (by decide) c5
    have e1 : f_ex (t_K B) L (n + 1) 5 depth (false, q) = f_ex (t_K B) L n 5 (depth + 1) (false, q + 1) := by rw [f_ex_5, if_neg c2, if_neg c3, if_neg c8, if_neg c4, if_pos (Or.inl c5)]
    have e2 : m_ex (t_K B) (t_V B) L P I E (n + 1) 5 depth q [] = m_bind (m_ex (t_K B) (t_V B) L P I E n 5 (depth + 1) (q + 1) []) fun l z => .inr ([d_un (if t_K B q = 29 then 36 else 11) (m_hd l)], z) := by rw [m_ex_5, if_neg c2, if_neg c3, if_neg c4]
    simp only [e1, e2] at hq
    simp only [bm_c0_v, bm_c1_v, bm_c2_v, bm_c3_v, bm_c4_v, bm_c5_v, bm_u_some, decide_eq_true_eq, true_and, and_true, and_self, Bool.not_eq_true, Bool.not_eq_true', decide_eq_false_iff_not, if_true, if_false, ite_true, ite_false, eq_self, hrs.1.2.2.2.1, hrs.1.2.2.2.2.1, hrs.1.2.2.2.2.2.1, hrs.1.2.2.2.2.2.2, hrs.1.1.1, hrs.1.2.1.1, hrs.1.2.2.1.1, sp_valueHere hrs.1.1, hrs.value, sp_startHere hrs.1.1, hrs.start, hrs.pass_f c2, hrs.pass_f c3, hrs.pass_f c4, hrs.pass_t c5, Int.reduceEq, w1rs.1.2.2.2.1, w1rs.1.2.2.2.2.1, w1rs.1.2.2.2.2.2.1, w1rs.1.2.2.2.2.2.2, w1rs.1.1.1, w1rs.1.2.1.1, w1rs.1.2.2.1.1]
    rw [if_pos c8i]
    exact rd_sign (op := 36) (Or.inl rfl) hP hF hrs (hv rfl) kq w1rs w1x (fun a j ha => q_gi_ne ha) hqL hd8 (by omega) (by omega) dp hq
  by_cases c6 : f_see (t_K B) L (b, q) 11 11
  · obtain rfl : b = false := c6.1
    have kq : t_K B q = 11 := by have := c6.2.2; simp only at this; omega
    have hqL : q < L := c6.2.1
    obtain ⟨w1rs, w1x⟩ := hrs.adv (by decide) c6
    have e1 : f_ex (t_K B) L (n + 1) 5 depth (false, q) = f_ex (t_K B) L n 5 (depth + 1) (false, q + 1) := by rw [f_ex_5, if_neg c2, if_neg c3, if_neg c8, if_neg c4, if_pos (Or.inr c6)]
    have e2 : m_ex (t_K B) (t_V B) L P I E (n + 1) 5 depth q [] = m_bind (m_ex (t_K B) (t_V B) L P I E n 5 (depth + 1) (q + 1) []) fun l z => .inr ([d_un (if t_K B q = 29 then 36 else 11) (m_hd l)], z) := by rw [m_ex_5, if_neg c2, if_neg c3, if_neg c4]
    simp only [e1, e2] at hq
    simp only [bm_c0_v, bm_c1_v, bm_c2_v, bm_c3_v, bm_c4_v, bm_c5_v, bm_u_some, decide_eq_true_eq, true_and, and_true, and_self, Bool.not_eq_true, Bool.not_eq_true', decide_eq_false_iff_not, if_true, if_false, ite_true, ite_false, eq_self, hrs.1.2.2.2.1, hrs.1.2.2.2.2.1, hrs.1.2.2.2.2.2.1, hrs.1.2.2.2.2.2.2, hrs.1.1.1, hrs.1.2.1.1, hrs.1.2.2.1.1, sp_valueHere hrs.1.1, hrs.value, sp_startHere hrs.1.1, hrs.start, hrs.pass_f c2, hrs.pass_f c3, hrs.pass_f c4, hrs.pass_f c5, hrs.pass_t c6, Int.reduceEq, w1rs.1.2.2.2.1, w1rs.1.2.2.2.2.1, w1rs.1.2.2.2.2.2.1, w1rs.1.2.2.2.2.2.2, w1rs.1.1.1, w1rs.1.2.1.1, w1rs.1.2.2.1.1]
    rw [if_pos c8i]
    exact rd_sign (op := 11) (Or.inr rfl) hP hF hrs (hv rfl) kq w1rs w1x (fun a j ha => q_gi_ne ha) hqL hd8 (by omega) (by omega) dp hq
  · have e1 : f_ex (t_K B) L (n + 1) 5 depth (b, q) = (true, q) := by rw [f_ex_5, if_neg c2, if_neg c3, if_neg c8, if_neg c4, if_neg (fun z => z.elim c5 c6)]
    simp only [bm_c0_v, bm_c1_v, bm_c2_v, bm_c3_v, bm_c4_v, bm_c5_v, bm_u_some, decide_eq_true_eq, true_and, and_true, and_self, Bool.not_eq_true, Bool.not_eq_true', decide_eq_false_iff_not, if_true, if_false, ite_true, ite_false, eq_self, hrs.1.2.2.2.1, hrs.1.2.2.2.2.1, hrs.1.2.2.2.2.2.1, hrs.1.2.2.2.2.2.2, hrs.1.1.1, hrs.1.2.1.1, hrs.1.2.2.1.1, sp_valueHere hrs.1.1, hrs.value, sp_startHere hrs.1.1, hrs.start, hrs.pass_f c2, hrs.pass_f c3, hrs.pass_f c4, hrs.pass_f c5, hrs.pass_f c6, sp_fail hrs.1.1]
    rw [if_pos c8i]
    exact dead e1
end RD
