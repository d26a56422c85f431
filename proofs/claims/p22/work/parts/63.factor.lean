/-! ===== reading, in the class: arguments, factors ===== -/
theorem put_k {w : bm_W} {cp a j : Nat} {e x : Int} (h : a ≠ cp) : bm_gi (cp_put w cp e x) a j = bm_gi w a j := by
  unfold cp_put
  split
  · rw [q_gi_ne h, q_gi_ne h]
  · rfl
theorem put_st {w : bm_W} {t : Nat} {e x : Int} : cp_st t w (cp_put w (t + 112) e x) := fun z => by
  unfold cp_put
  rw [if_neg z]
  exact ⟨rfl, rfl⟩
theorem put_is {w : bm_W} {t : Nat} {e x : Int} (h : bm_gi w (t + 112) 2 = 0) : bm_gi (cp_put w (t + 112) e x) (t + 112) 2 = e ∧ bm_gi (cp_put w (t + 112) e x) (t + 112) 3 = x := by
  unfold cp_put
  rw [if_pos h]
  exact ⟨by rw [q_gi_nk (by decide), q_gi_eq], q_gi_eq⟩
/-- the live part of a call, behind its first arguments acc -/
def gc (t f k fst : Nat) (P I : Nat → Nat) (E : q_E) (num : Int) (acc : List q_D) (s s' : Nat) (w w' : bm_W) (l : List q_D) (z : Nat) : Prop := ∀ c00 c0 wt : Nat, lf t f P I w c0 s → c0 + 2 * fst ≤ 2 * s → 0 ≤ bm_gi w f 9 → bm_gi w f 9 + 200 * fst ≤ 200 * s → qa t f k E num w c00 c0 acc wt → acc.length ≤ wt → c00 ≤ c0 → e_sz E num →
  ∃ c1 : Nat, lf t f P I w' c1 s' ∧ c0 < c1 ∧ c1 + 2 * s ≤ c0 + 2 * s' ∧ bm_gi w' f 9 = bm_gi w f 9 + z ∧ z + 200 * s ≤ 200 * s' ∧ cb f 0 c0 w w' ∧ qs t f k E num w' c00 c1 (m_hd l) (wt + (s' - s) + z)
/-- what becomes of arguments -/
def m_K (E : q_E) (g : Int) (q0 : Nat) (l : List q_D) (z : Nat) : q_M := if l.length = E.2.2.1 g then .inr ([d_call (E.2.2.2.2 g) l], z + E.2.2.2.1 g) else .inl (6, q0)
theorem m_K_add {E : q_E} {g : Int} {q0 z : Nat} {X : q_M} : m_bind (m_add z X) (m_K E g q0) = m_add z (m_bind X (m_K E g q0)) := by
  cases X with
  | inl e => rfl
  | inr x =>
    show m_K E g q0 x.1 (z + x.2) = m_add z (m_K E g q0 x.1 x.2)
    unfold m_K
    split
    · show _ = Sum.inr _
      rw [Nat.add_assoc]
    · rfl
theorem m_bind_bind {r : q_M} {X : List q_D → q_M} {K : List q_D → Nat → q_M} : m_bind (m_bind r (fun l z => m_add z (X l))) K = m_bind r (fun l z => m_bind (m_add z (X l)) K) := by cases r <;> rfl
section RD
variable {t f k N L fst : Nat} {B : Int → Int} {E : q_E} {num : Int} {P I : Nat → Nat}
/-- the end of a call -/
theorem rd_90 {d q0 : Nat} {g depth : Int} {s : Bool × Nat} {w : bm_W} {Φ : bm_Rt → bm_W → Prop} {acc : List q_D} (hP : hp (t_K B) P I fst) (hE : he0 E num k) (hg : -1 ≤ g ∧ g < num) (hrs : rs t f k N L fst B E num s w) (hgc : s.1 = false → 0 ≤ g ∨ bm_gi w (t + 112) 2 ≠ 0) (hq : ∀ w', px t f B (f_exp (t_K B) L 17 s) (m_K E g q0 acc 0) (gc t f k fst P I E num acc s.2 (f_exp (t_K B) L 17 s).2 w w') w w' → Φ (.inl none) w') : bk_X0_readArguments_90 (d + 5) Φ (t + 112) (t_P B q0) g (acc.length : Int) w := by
  have had := hrs.ad
  refine vb_X0_readArguments_90 ?_
  simp only [bm_c0_v, bm_c1_v, bm_c2_v, bm_c3_v, bm_c4_v, bm_c5_v, bm_u_some, decide_eq_true_eq, true_and, and_true, and_self, Bool.not_eq_true, Bool.not_eq_true', decide_eq_false_iff_not, if_true, if_false, ite_true, ite_false, eq_self, hrs.1.2.2.2.1, hrs.1.2.2.2.2.1, hrs.1.2.2.2.2.2.1, hrs.1.2.2.2.2.2.2, hrs.1.1.1, hrs.1.2.1.1, hrs.1.2.2.1.1]
  refine hrs.exp (by decide) (fun x1 w1 w1rs x1f l1 => ?_)
  have hfg := w1rs.1.2.1.fn g
  have e5 := w1rs.2.2.2.2.2.2.2 g
  simp only [bm_c0_v, bm_c1_v, bm_c2_v, bm_c3_v, bm_c4_v, bm_c5_v, bm_u_some, decide_eq_true_eq, true_and, and_true, and_self, Bool.not_eq_true, Bool.not_eq_true', decide_eq_false_iff_not, if_true, if_false, ite_true, ite_false, eq_self, w1rs.1.2.2.2.1, w1rs.1.2.2.2.2.1, w1rs.1.2.2.2.2.2.1, w1rs.1.2.2.2.2.2.2, w1rs.1.1.1, w1rs.1.2.1.1, w1rs.1.2.2.1.1, sp_funAt w1rs.1.2.1, hfg.1]
  have hs : ∀ z : (f_exp (t_K B) L 17 s).1 = false, f_see (t_K B) L s 17 17 ∧ (f_exp (t_K B) L 17 s).2 = s.2 + 1 := fun z => by
    have := f_exp_ok z
    exact ⟨this.1, by rw [this.2]⟩
  -- the rest, from a world that differs by the complaint alone
  have fin : ∀ w2 : bm_W, rs t f k N L fst B E num (f_exp (t_K B) L 17 s) w2 → fx t f w1 w2 → sl (t + 112) w1 w2 → cp_st t w1 w2 → ((f_exp (t_K B) L 17 s).1 = false → bm_gi w1 (t + 112) 2 = 0 → (acc.length = E.2.2.1 g → bm_gi w2 (t + 112) 2 = 0) ∧ (¬ acc.length = E.2.2.1 g → bm_gi w2 (t + 112) 2 = 6 ∧ bm_gi w2 (t + 112) 3 = t_P B q0)) →
      bm_Call bm_pg (d + 5) y_X1_emit [bm_r (some f), bm_i 35, bm_i g, bm_i (-1)] (bm_si w2 f 9 (bm_w (bm_gi w2 f 9 + bm_gi w2 (pg_fn (t + 4) g) 9))) (fun r3 w3 => bm_c1 (fun x3 => Φ (.inl none) w3) (fun E => Φ (.inr E) w3) r3) := by
    intro w2 w2rs x2f l2 st2 hc2
    have w3rs : rs t f k N L fst B E num (f_exp (t_K B) L 17 s) (bm_si w2 f 9 (bm_w (bm_gi w2 f 9 + bm_gi w2 (pg_fn (t + 4) g) 9))) := w2rs.st (fx.rf.si had.1 had.2 (by omega)) (q_gi_ne (by omega)) (q_gi_ne (by omega))
    rw [sp_emit w3rs.1.2.2.1, bm_c1_v]
    have x4 : fx t f w2 (fn_emit (bm_si w2 f 9 (bm_w (bm_gi w2 f 9 + bm_gi w2 (pg_fn (t + 4) g) 9))) f 35 g (-1)) := (fx.rf.si had.1 had.2 (by omega)).emit had.1 had.2
    have k4 : ∀ a j, a ≠ f → a ≠ f + 5 → a ≠ f + 6 → a ≠ f + 7 → bm_gi (fn_emit (bm_si w2 f 9 (bm_w (bm_gi w2 f 9 + bm_gi w2 (pg_fn (t + 4) g) 9))) f 35 g (-1)) a j = bm_gi w2 a j := fun a j p1 p2 p3 p4 => (em_k (by omega) p2 p3 p4).trans (q_gi_ne p1)
    have c4 : ∀ j, bm_gi (fn_emit (bm_si w2 f 9 (bm_w (bm_gi w2 f 9 + bm_gi w2 (pg_fn (t + 4) g) 9))) f 35 g (-1)) (t + 112) j = bm_gi w2 (t + 112) j := fun j => k4 _ _ (by omega) (by omega) (by omega) (by omega)
    have c1 : ∀ j, bm_gi w1 (t + 112) j = bm_gi w (t + 112) j := fun j => l1 _ _ (by omega)
    refine hq _ ⟨(x1f.tr x2f).tr x4, ?_, ?_, fun z => ⟨((cp_st.eq c1).tr st2).tr (cp_st.eq c4), fun h0 => ?_⟩⟩
    · rw [k4 _ _ (by omega) (by omega) (by omega) (by omega)]; exact w2rs.2.2.1.1
    · rw [k4 _ _ (by omega) (by omega) (by omega) (by omega)]; exact w2rs.2.2.1.2.1
    · have g0 : 0 ≤ g := (hgc (hs z).1.1).elim (fun y => y) (fun y => absurd h0 y)
      have hc2' := hc2 z ((c1 2).trans h0)
      unfold m_K
      by_cases hl : acc.length = E.2.2.1 g
      · rw [if_pos hl]
        refine ⟨(c4 2).trans (hc2'.1 hl), ?_⟩
        intro c00 c0 wt a1 a2 a3 a4 a5 a6 a7 az
        obtain ⟨s1, s2⟩ := hs z
        have hz := az g g0 hg.2
        have sL := s1.2.1
        have b7 := hrs.2.1.2.2.2.2.2.2.1
        have i1 : ∀ j, bm_gi w2 f j = bm_gi w f j := fun j => (l2 _ _ (by omega)).trans (l1 _ _ (by omega))
        have i2 : bm_gi w2 (t + 4) 6 = bm_gi w (t + 4) 6 := (l2 _ _ (by omega)).trans (l1 _ _ (by omega))
        have i3 : ∀ j a, (a = f + 5 ∨ a = f + 6 ∨ a = f + 7) → bm_gi w2 a j = bm_gi w a j := fun j a ha => (l2 _ _ (by omega)).trans (l1 _ _ (by omega))
        have i9 : bm_gi w2 (pg_fn (t + 4) g) 9 = (E.2.2.2.1 g : Int) := (w2rs.2.2.2.2.2.2.2 g g0 hg.2).2 az
        have kq : t_K B s.2 = 17 := by have := s1.2.2; omega
        have q1 := (hP.1 s.2 hrs.2.2.1.2.2.2.2.2).2 (by unfold f_pl; omega)
        have q2 := (hP.2.1 s.2).2 (by omega)
        have f7 : bm_gi (bm_si w2 f 9 (bm_w (bm_gi w2 f 9 + bm_gi w2 (pg_fn (t + 4) g) 9))) f 7 = (c0 : Int) := by rw [q_gi_nk (by decide), i1]; exact a1.1
        obtain ⟨e1, e2, e3, e4, e5⟩ := em_c (op := 35) (x := g) (q := -1) f7 (by omega)
        have cbb : cb f 0 c0 w (fn_emit (bm_si w2 f 9 (bm_w (bm_gi w2 f 9 + bm_gi w2 (pg_fn (t + 4) g) 9))) f 35 g (-1)) := fun j a ha _ hj => by
          rw [e5 j a ha (by omega), q_gi_ne (by omega), i3 j a ha]
        refine ⟨c0 + 1, ⟨e1, ?_, ?_⟩, by omega, by omega, ?_, by omega, cbb, ?_⟩
        · rw [em_k (by omega) (by omega) (by omega) (by omega), q_gi_nk (by decide), i1, s2, q1]; exact a1.2.1
        · rw [em_k (by omega) (by omega) (by omega) (by omega), q_gi_ne (by omega), i2, s2, q2]; exact a1.2.2
        · have n1 := hrs.2.2.1.2.2.2.1
          have n2 := hrs.2.1.2.1
          rw [em_k (by omega) (by omega) (by omega) (by omega), q_gi_eq, i9, i1, q_wI ⟨by omega, by omega⟩]; omega
        · have := qs_call (a5.fr (cbb.sub (Nat.zero_le _) (Nat.le_refl _))) a7 ⟨g0, hg.2⟩ hl e2 e3 a6 hz.1
          exact this.mo (by omega)
      · rw [if_neg hl]
        refine ⟨(show (6 : Int) ≠ 0 by decide), ?_, ?_⟩
        · exact (c4 2).trans (hc2'.2 hl).1
        · exact (c4 3).trans (hc2'.2 hl).2
  by_cases hl : (acc.length : Int) = bm_gi w1 (pg_fn (t + 4) g) 6
  · rw [if_pos hl]
    have w3rs : rs t f k N L fst B E num (f_exp (t_K B) L 17 s) (bm_si w1 f 9 (bm_w (bm_gi w1 f 9 + bm_gi w1 (pg_fn (t + 4) g) 9))) := w1rs.st (fx.rf.si had.1 had.2 (by omega)) (q_gi_ne (by omega)) (q_gi_ne (by omega))
    simp only [bm_c0_v, bm_c1_v, bm_c2_v, bm_c3_v, bm_c4_v, bm_c5_v, bm_u_some, decide_eq_true_eq, true_and, and_true, and_self, Bool.not_eq_true, Bool.not_eq_true', decide_eq_false_iff_not, if_true, if_false, ite_true, ite_false, eq_self, w3rs.1.2.2.2.1, w3rs.1.2.2.2.2.1, w3rs.1.2.2.2.2.2.1, w3rs.1.2.2.2.2.2.2, w3rs.1.1.1, w3rs.1.2.1.1, w3rs.1.2.2.1.1]
    refine fin w1 w1rs fx.rf (fun _ _ _ => rfl) (fun _ => ⟨rfl, rfl⟩) (fun z h0 => ⟨fun _ => h0, fun hn => ?_⟩)
    have g0 : 0 ≤ g := (hgc (hs z).1.1).elim (fun y => y) (fun y => absurd ((l1 _ _ (by omega)).symm.trans h0) y)
    have := (e5 g0 hg.2).1
    omega
  · rw [if_neg hl]
    have w2rs := w1rs.st (w' := cp_put w1 (t + 112) 6 (t_P B q0)) (fx.rf.put had.1 had.2) (put_k (by omega)) (put_k (by omega))
    have w3rs : rs t f k N L fst B E num (f_exp (t_K B) L 17 s) (bm_si (cp_put w1 (t + 112) 6 (t_P B q0)) f 9 (bm_w (bm_gi (cp_put w1 (t + 112) 6 (t_P B q0)) f 9 + bm_gi (cp_put w1 (t + 112) 6 (t_P B q0)) (pg_fn (t + 4) g) 9))) := w2rs.st (fx.rf.si had.1 had.2 (by omega)) (q_gi_ne (by omega)) (q_gi_ne (by omega))
    have hfg2 := w2rs.1.2.1.fn g
    simp only [bm_c0_v, bm_c1_v, bm_c2_v, bm_c3_v, bm_c4_v, bm_c5_v, bm_u_some, decide_eq_true_eq, true_and, and_true, and_self, Bool.not_eq_true, Bool.not_eq_true', decide_eq_false_iff_not, if_true, if_false, ite_true, ite_false, eq_self, sp_complain w1rs.1.2.2.2.1, w2rs.1.2.2.2.1, w2rs.1.2.2.2.2.1, w2rs.1.2.2.2.2.2.1, w2rs.1.2.2.2.2.2.2, w2rs.1.1.1, w2rs.1.2.1.1, w2rs.1.2.2.1.1, hfg2.1, w3rs.1.2.2.2.1, w3rs.1.2.2.2.2.1, w3rs.1.2.2.2.2.2.1, w3rs.1.2.2.2.2.2.2, w3rs.1.1.1, w3rs.1.2.1.1, w3rs.1.2.2.1.1]
    refine fin _ w2rs (fx.rf.put had.1 had.2) (fun a j ha => put_k ha) put_st (fun z h0 => ⟨fun hn => ?_, fun _ => put_is h0⟩)
    have g0 : 0 ≤ g := (hgc (hs z).1.1).elim (fun y => y) (fun y => absurd ((l1 _ _ (by omega)).symm.trans h0) y)
    have := (e5 g0 hg.2).1
    omega
/-- the further arguments of a call, and its end -/
def ra (t f k N L fst : Nat) (B : Int → Int) (E : q_E) (num : Int) (P I : Nat → Nat) (n : Nat) : Prop := ∀ (d depth q0 : Nat) (g : Int) (s : Bool × Nat) (w : bm_W) (Φ : bm_Rt → bm_W → Prop) (acc : List q_D), rs t f k N L fst B E num s w → (s.1 = false → fst < s.2 ∧ f_ve (t_K B) s.2) → depth < 8 → 8 * (L + 1 - s.2) ≤ n → 3 * n + 6 ≤ d → -1 ≤ g ∧ g < num → (s.1 = false → 0 ≤ g ∨ bm_gi w (t + 112) 2 ≠ 0) → 1 ≤ acc.length → acc.length ≤ 50 → (s.1 = false → acc.length + fst ≤ s.2) → (∀ w', px t f B (f_ex (t_K B) L n 12 (depth + 1) s) (m_bind (m_ex (t_K B) (t_V B) L P I E n 12 (depth + 1) s.2 acc) (m_K E g q0)) (gc t f k fst P I E num acc s.2 (f_ex (t_K B) L n 12 (depth + 1) s).2 w w') w w' → Φ (.inl none) w') → bk_X0_readArguments_57 d Φ (t + 112) (t_P B q0) (depth : Int) g (acc.length : Int) w
theorem rd_args {n : Nat} (hP : hp (t_K B) P I fst) (hE : he0 E num k) (hF : rc t f k N L fst B E num P I 6 y_X0_readExpression n) (hL : ra t f k N L fst B E num P I n) : ra t f k N L fst B E num P I (n + 1) := by
  intro d depth q0 g s w Φ acc hrs hv hd hn hdd hg hgc hl1 hl2 hl3 hq
  obtain ⟨d, rfl⟩ : ∃ d', d = d' + 6 := ⟨d - 6, by omega⟩
  obtain ⟨b, q⟩ := s
  have had := hrs.ad
  refine vb_X0_readArguments_57 ?_
  by_cases c : f_see (t_K B) L (b, q) 18 18
  · obtain rfl : b = false := c.1
    have cq : t_K B q = 18 := by have := c.2.2; simp only at this; omega
    have qL : q < L := c.2.1
    have hfu : 8 * (L + 1 - (false, q + 1).2) + (if 6 = 6 then 7 else 6 - 6) ≤ n := by simp only at hn ⊢; simp; omega
    have hdu : 3 * n + 6 ≤ d + 6 := by omega
    have c50 : ¬ (50 : Int) ≤ (acc.length : Int) := by
      have h1 := hl3 rfl
      have h2 := hrs.2.1.2.2.2.2.2.2.1
      simp only at h1
      omega
    obtain ⟨w1rs, w1x⟩ := hrs.adv (by decide) c
    have dp : bm_w ((depth : Int) + 1) = ((depth + 1 : Nat) : Int) := by rw [q_wI ⟨by omega, by omega⟩]; omega
    simp only [bm_c0_v, bm_c1_v, bm_c2_v, bm_c3_v, bm_c4_v, bm_c5_v, bm_u_some, decide_eq_true_eq, true_and, and_true, and_self, Bool.not_eq_true, Bool.not_eq_true', decide_eq_false_iff_not, if_true, if_false, ite_true, ite_false, eq_self, hrs.1.2.2.2.1, hrs.1.2.2.2.2.1, hrs.1.2.2.2.2.2.1, hrs.1.2.2.2.2.2.2, hrs.1.1.1, hrs.1.2.1.1, hrs.1.2.2.1.1, hrs.pass_t c, c50, w1rs.1.2.2.2.1, w1rs.1.2.2.2.2.1, w1rs.1.2.2.2.2.2.1, w1rs.1.2.2.2.2.2.2, w1rs.1.1.1, w1rs.1.2.1.1, w1rs.1.2.2.1.1, Int.reduceEq, dp]
    have hqN : q + 1 ≤ N := w1rs.2.2.1.2.2.2.1
    have r1 := hrs.rng n 6 (depth + 1) (q := q + 1) (b := false) (by decide) hqN qL
    refine hF _ (depth + 1) (false, q + 1) _ _ w1rs (fun _ => f_st_op (by rw [cq]; decide)) hd hfu hdu (fun w3 h3 => ?_)
    have w3rs := w1rs.mv (s' := f_ex (t_K B) L n 6 (depth + 1) (false, q + 1)) h3.1 h3.2.1 h3.2.2.1 r1.2.1 r1.2.2.1 (by have := hrs.2.2.1.2.2.2.2.2; simp only at this; omega)
    simp only [bm_c0_v, bm_c1_v, bm_c2_v, bm_c3_v, bm_c4_v, bm_c5_v, bm_u_some, decide_eq_true_eq, true_and, and_true, and_self, Bool.not_eq_true, Bool.not_eq_true', decide_eq_false_iff_not, if_true, if_false, ite_true, ite_false, eq_self]
    have hln : ((acc ++ [m_hd (m_l (m_ex (t_K B) (t_V B) L P I E n 6 (depth + 1) (q + 1) []))]).length : Int) = (acc.length : Int) + 1 := by rw [List.length_append]; simp
    rw [q_wI (x := (acc.length : Int) + 1) ⟨by omega, by omega⟩, ← hln]
    have cpw : ∀ j, bm_gi (bm_si w t 8 (bm_gi w t 8 + 1)) (t + 112) j = bm_gi w (t + 112) j := fun j => q_gi_ne (by omega)
    by_cases z3 : (f_ex (t_K B) L n 6 (depth + 1) (false, q + 1)).1 = false
    · have p3 := h3.2.2.2 z3
      have hgc3 : 0 ≤ g ∨ bm_gi w3 (t + 112) 2 ≠ 0 := (hgc rfl).elim Or.inl (fun y => Or.inr (by
        have := p3.1 (by rw [cpw]; exact y)
        rw [this.1, cpw]
        exact y))
      refine hL _ depth q0 g (f_ex (t_K B) L n 6 (depth + 1) (false, q + 1)) _ _ (acc ++ [m_hd (m_l (m_ex (t_K B) (t_V B) L P I E n 6 (depth + 1) (q + 1) []))]) w3rs (fun z => ⟨?_, f_ex_ve n 6 (depth + 1) (false, q + 1) (by decide) z (fun z1 => absurd z1 (by decide))⟩) hd (by simp only at hn; omega) (by omega) hg (fun _ => hgc3) (by omega) (by omega) (fun z => ?_) (fun w5 h5 => hq w5 ?_)
      · have := hrs.2.2.1.2.2.2.2.2; simp only at this; omega
      · have := r1.2.2.2 z (by decide); have := hl3 rfl; simp only at this; omega
      · have e1 : f_ex (t_K B) L (n + 1) 12 (depth + 1) (false, q) = f_ex (t_K B) L n 12 (depth + 1) (f_ex (t_K B) L n 6 (depth + 1) (false, q + 1)) := by rw [f_ex_12, if_pos c]
        have e2 : m_ex (t_K B) (t_V B) L P I E (n + 1) 12 (depth + 1) q acc = m_bind (m_ex (t_K B) (t_V B) L P I E n 6 (depth + 1) (q + 1) []) fun l z => m_add z (m_ex (t_K B) (t_V B) L P I E n 12 (depth + 1) (f_ex (t_K B) L n 6 (depth + 1) (false, q + 1)).2 (acc ++ [m_hd l])) := by rw [m_ex_12, if_pos c]
        simp only [e1, e2, m_bind_bind (X := fun l => m_ex (t_K B) (t_V B) L P I E n 12 (depth + 1) (f_ex (t_K B) L n 6 (depth + 1) (false, q + 1)).2 (acc ++ [m_hd l]))]
        refine px.bind (px.pre w1x cpw h3) h5.1 h5.2.1 h5.2.2.1 (fun z => ?_)
        have z1 := f_ex_ok (by decide) z
        have r2 := hrs.rng n 12 (depth + 1) (q := (f_ex (t_K B) L n 6 (depth + 1) (false, q + 1)).2) (b := (f_ex (t_K B) L n 6 (depth + 1) (false, q + 1)).1) (by decide) r1.2.1 r1.2.2.1
        have p5 := h5.2.2.2 z
        refine ⟨z1, p5.1, fun l y hr c0 g1 => ?_⟩
        have p6 := p5.2 c0
        rw [hr] at p6
        rw [m_K_add]
        refine p6.add (fun l2 z2 _ g2 => ?_)
        intro c00 c0' wt a1 a2 a3 a4 a5 a6 a7 az
        have q1 := (hP.1 q hrs.2.2.1.2.2.2.2.2).2 (by unfold f_pl; omega)
        have q2 := (hP.2.1 q).2 (by omega)
        have lf1 : lf t f P I (bm_si w t 8 (bm_gi w t 8 + 1)) c0' (q + 1) := ⟨by rw [q_gi_ne (by omega)]; exact a1.1, by rw [q_gi_ne (by omega), q1]; exact a1.2.1, by rw [q_gi_ne (by omega), q2]; exact a1.2.2⟩
        have n9 : bm_gi (bm_si w t 8 (bm_gi w t 8 + 1)) f 9 = bm_gi w f 9 := q_gi_ne (by omega)
        obtain ⟨c1, d1, d2, d3, d4, d5, d6, d7⟩ := g1 c0' lf1 (by omega) (by omega) (by omega) az
        have cb1 : cb f 0 c0' w w3 := fun j a ha x hj => (d6 j a ha x hj).trans (q_gi_ne (by omega))
        have rq := r1.2.2.2 z1 (by decide)
        have qa3 := qa_snoc (a5.fr (cb1.sub (Nat.zero_le _) (Nat.le_refl _))) d7 a7 (by omega) a6
        obtain ⟨c2, i1, i2, i3, i4, i5, i6, i7⟩ := g2 c00 c1 (wt + ((f_ex (t_K B) L n 6 (depth + 1) (false, q + 1)).2 - (q + 1) + y)) d1 (by omega) (by omega) (by omega) qa3 (by rw [List.length_append]; simp; omega) (by omega) az
        refine ⟨c2, i1, by omega, by omega, by omega, by omega, cb1.tr (i6.sub (Nat.le_refl _) (by omega)), i7.mo (by omega)⟩
    · have zt : f_ex (t_K B) L n 6 (depth + 1) (false, q + 1) = (true, (f_ex (t_K B) L n 6 (depth + 1) (false, q + 1)).2) := by
        generalize f_ex (t_K B) L n 6 (depth + 1) (false, q + 1) = s1 at z3
        obtain ⟨b1, p1⟩ := s1
        cases b1
        · exact absurd rfl z3
        · rfl
      have e1 : f_ex (t_K B) L (n + 1) 12 (depth + 1) (false, q) = (true, (f_ex (t_K B) L n 6 (depth + 1) (false, q + 1)).2) := by rw [f_ex_12, if_pos c, zt, f_ex_fail _ _ _ _ (by decide)]
      rw [zt] at w3rs
      -- nothing is told any more: any meanings will do
      have any : ∀ (acc' : List q_D), (acc'.length : Int) = (acc.length : Int) + 1 → bk_X0_readArguments_57 (d + 6) Φ (t + 112) (t_P B q0) (depth : Int) g (acc'.length : Int) w3 := by
        intro acc' hla
        refine vb_X0_readArguments_57 ?_
        have no : ∀ a b : Int, ¬ f_see (t_K B) L (true, (f_ex (t_K B) L n 6 (depth + 1) (false, q + 1)).2) a b := fun a b z => by have := z.1; cases this
        have fin : bk_X0_readArguments_90 (d + 6) Φ (t + 112) (t_P B q0) g (acc'.length : Int) w3 := by
          have had := w3rs.ad
          refine vb_X0_readArguments_90 ?_
          simp only [bm_c0_v, bm_c1_v, bm_c2_v, bm_c3_v, bm_c4_v, bm_c5_v, bm_u_some, decide_eq_true_eq, true_and, and_true, and_self, Bool.not_eq_true, Bool.not_eq_true', decide_eq_false_iff_not, if_true, if_false, ite_true, ite_false, eq_self, w3rs.1.2.2.2.1, w3rs.1.2.2.2.2.1, w3rs.1.2.2.2.2.2.1, w3rs.1.2.2.2.2.2.2, w3rs.1.1.1, w3rs.1.2.1.1, w3rs.1.2.2.1.1]
          refine w3rs.exp (by decide) (fun x1 w4 w4rs x4f l4 => ?_)
          rw [f_exp_fail] at w4rs
          have hfg := w4rs.1.2.1.fn g
          simp only [bm_c0_v, bm_c1_v, bm_c2_v, bm_c3_v, bm_c4_v, bm_c5_v, bm_u_some, decide_eq_true_eq, true_and, and_true, and_self, Bool.not_eq_true, Bool.not_eq_true', decide_eq_false_iff_not, if_true, if_false, ite_true, ite_false, eq_self, w4rs.1.2.2.2.1, w4rs.1.2.2.2.2.1, w4rs.1.2.2.2.2.2.1, w4rs.1.2.2.2.2.2.2, w4rs.1.1.1, w4rs.1.2.1.1, w4rs.1.2.2.1.1, sp_funAt w4rs.1.2.1, hfg.1]
          have fin2 : ∀ w2 : bm_W, rs t f k N L fst B E num (true, (f_ex (t_K B) L n 6 (depth + 1) (false, q + 1)).2) w2 → fx t f w w2 → bm_Call bm_pg (d + 6) y_X1_emit [bm_r (some f), bm_i 35, bm_i g, bm_i (-1)] (bm_si w2 f 9 (bm_w (bm_gi w2 f 9 + bm_gi w2 (pg_fn (t + 4) g) 9))) (fun r3 w3 => bm_c1 (fun x3 => Φ (.inl none) w3) (fun E => Φ (.inr E) w3) r3) := by
            intro w2 w2rs x2
            have w5rs : rs t f k N L fst B E num (true, (f_ex (t_K B) L n 6 (depth + 1) (false, q + 1)).2) (bm_si w2 f 9 (bm_w (bm_gi w2 f 9 + bm_gi w2 (pg_fn (t + 4) g) 9))) := w2rs.st (fx.rf.si had.1 had.2 (by omega)) (q_gi_ne (by omega)) (q_gi_ne (by omega))
            have w6rs := w5rs.emitted (op := 35) (x := g) (q := -1)
            rw [sp_emit w5rs.1.2.2.1, bm_c1_v]
            refine hq _ ?_
            rw [e1]
            exact px_ded ((x2.si had.1 had.2 (by omega)).emit had.1 had.2) w6rs.2.2.1.1 w6rs.2.2.1.2.1 rfl
          have x04 : fx t f w w4 := (w1x.tr h3.1).tr x4f
          split
          · have w5rs : rs t f k N L fst B E num (true, (f_ex (t_K B) L n 6 (depth + 1) (false, q + 1)).2) (bm_si w4 f 9 (bm_w (bm_gi w4 f 9 + bm_gi w4 (pg_fn (t + 4) g) 9))) := w4rs.st (fx.rf.si had.1 had.2 (by omega)) (q_gi_ne (by omega)) (q_gi_ne (by omega))
            simp only [bm_c0_v, bm_c1_v, bm_c2_v, bm_c3_v, bm_c4_v, bm_c5_v, bm_u_some, decide_eq_true_eq, true_and, and_true, and_self, Bool.not_eq_true, Bool.not_eq_true', decide_eq_false_iff_not, if_true, if_false, ite_true, ite_false, eq_self, w5rs.1.2.2.2.1, w5rs.1.2.2.2.2.1, w5rs.1.2.2.2.2.2.1, w5rs.1.2.2.2.2.2.2, w5rs.1.1.1, w5rs.1.2.1.1, w5rs.1.2.2.1.1]
            exact fin2 w4 w4rs x04
          · have w2rs := w4rs.st (w' := cp_put w4 (t + 112) 6 (t_P B q0)) (fx.rf.put had.1 had.2) (put_k (by omega)) (put_k (by omega))
            have w5rs : rs t f k N L fst B E num (true, (f_ex (t_K B) L n 6 (depth + 1) (false, q + 1)).2) (bm_si (cp_put w4 (t + 112) 6 (t_P B q0)) f 9 (bm_w (bm_gi (cp_put w4 (t + 112) 6 (t_P B q0)) f 9 + bm_gi (cp_put w4 (t + 112) 6 (t_P B q0)) (pg_fn (t + 4) g) 9))) := w2rs.st (fx.rf.si had.1 had.2 (by omega)) (q_gi_ne (by omega)) (q_gi_ne (by omega))
            have hfg2 := w2rs.1.2.1.fn g
            simp only [bm_c0_v, bm_c1_v, bm_c2_v, bm_c3_v, bm_c4_v, bm_c5_v, bm_u_some, decide_eq_true_eq, true_and, and_true, and_self, Bool.not_eq_true, Bool.not_eq_true', decide_eq_false_iff_not, if_true, if_false, ite_true, ite_false, eq_self, sp_complain w4rs.1.2.2.2.1, w2rs.1.2.2.2.1, w2rs.1.2.2.2.2.1, w2rs.1.2.2.2.2.2.1, w2rs.1.2.2.2.2.2.2, w2rs.1.1.1, w2rs.1.2.1.1, w2rs.1.2.2.1.1, hfg2.1, w5rs.1.2.2.2.1, w5rs.1.2.2.2.2.1, w5rs.1.2.2.2.2.2.1, w5rs.1.2.2.2.2.2.2, w5rs.1.1.1, w5rs.1.2.1.1, w5rs.1.2.2.1.1]
            exact fin2 _ w2rs (x04.put had.1 had.2)
        simp only [bm_c0_v, bm_c1_v, bm_c2_v, bm_c3_v, bm_c4_v, bm_c5_v, bm_u_some, decide_eq_true_eq, true_and, and_true, and_self, Bool.not_eq_true, Bool.not_eq_true', decide_eq_false_iff_not, if_true, if_false, ite_true, ite_false, eq_self, w3rs.1.2.2.2.1, w3rs.1.2.2.2.2.1, w3rs.1.2.2.2.2.2.1, w3rs.1.2.2.2.2.2.2, w3rs.1.1.1, w3rs.1.2.1.1, w3rs.1.2.2.1.1, w3rs.pass_f (no 18 18)]
        split
        · exact fin
        · exact fin
      exact any _ hln
  · have fin : bk_X0_readArguments_90 (d + 6) Φ (t + 112) (t_P B q0) g (acc.length : Int) w := by
      refine rd_90 (d := d + 1) (depth := 0) hP hE hg hrs hgc (fun w' h' => hq w' ?_)
      have e1 : f_ex (t_K B) L (n + 1) 12 (depth + 1) (b, q) = f_exp (t_K B) L 17 (b, q) := by rw [f_ex_12, if_neg c]
      rw [e1]
      cases b
      · have e2 : m_ex (t_K B) (t_V B) L P I E (n + 1) 12 (depth + 1) q acc = .inr (acc, 0) := by rw [m_ex_12, if_neg c]
        simp only [e2]
        exact h'
      · refine px_ded h'.1 h'.2.1 h'.2.2.1 (by rw [f_exp_fail])
    simp only [bm_c0_v, bm_c1_v, bm_c2_v, bm_c3_v, bm_c4_v, bm_c5_v, bm_u_some, decide_eq_true_eq, true_and, and_true, and_self, Bool.not_eq_true, Bool.not_eq_true', decide_eq_false_iff_not, if_true, if_false, ite_true, ite_false, eq_self, hrs.1.2.2.2.1, hrs.1.2.2.2.2.1, hrs.1.2.2.2.2.2.1, hrs.1.2.2.2.2.2.2, hrs.1.1.1, hrs.1.2.1.1, hrs.1.2.2.1.1, hrs.pass_f c]
    split
    · exact fin
    · exact fin
end RD
