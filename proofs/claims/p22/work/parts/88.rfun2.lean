/-! ===== reading in the class: functions ===== -/
section RF
variable {d t N : Nat} {B : Int → Int} {s : Bool × Nat} {w : bm_W} {Φ : bm_Rt → bm_W → Prop} {pr : y_pr} {ins : List y_in} {p f : Nat}
theorem pg_fn_ap {p f : Nat} {i j : Int} (hf : f = pg_fn p j) (h : ¬ pg_fn p i = f) : pg_fn p i + 8 ≤ f ∨ f + 8 ≤ pg_fn p i := by
  subst hf
  unfold pg_fn at h ⊢
  by_cases a : 0 ≤ i ∧ i < 6
  · by_cases b : 0 ≤ j ∧ j < 6
    · rw [if_pos a, if_pos b] at h ⊢
      omega
    · rw [if_pos a, if_neg b] at h ⊢
      omega
  · by_cases b : 0 ≤ j ∧ j < 6
    · rw [if_neg a, if_pos b] at h ⊢
      omega
    · rw [if_neg a, if_neg b] at h
      exact absurd rfl h
theorem bf.kf {w' : bm_W} (h : bf t f w w') (h1 : t + 7 ≤ f) (h2 : f ≤ t + 62) : kf t w w' := kf.of h.1 (fun a z => Or.inl (by omega))
/-- a function is kept -/
theorem yl_keep {F : y_fn} {q q' : Nat} {w' : bm_W} (h : yl t B pr q w) (hF : yfn t B pr.1.length F w) (hl : pr.1.length < 6) (ho : rw_ok t w) (hf : tf t w w') (hI : y_I (t_K B) q' = y_I (t_K B) q) : yl t B (pr.1 ++ [F], pr.2) q' (bm_si w' (t + 4) 4 ((pr.1.length : Int) + 1)) := by
  have h' := h.tf ho hf hI
  have hF' : yfn t B pr.1.length F w' := hF.bk (fun x _ a u v j => by
    have := pg_fn_r (t + 4) (x : Int)
    exact ⟨hf.1.gi (by omega), by rw [hf.2.2.2]⟩)
  obtain ⟨⟨a1, a2, a3⟩, b, c⟩ := h'
  have bk : ∀ x : Nat, q_bk (pg_fn (t + 4) (x : Int)) 8 w' (bm_si w' (t + 4) 4 ((pr.1.length : Int) + 1)) := fun x a u v j => by
    have := pg_fn_r (t + 4) (x : Int)
    exact ⟨q_gi_ne (by omega), rfl⟩
  have o' : rw_ok t w' := ho.fr hf.1
  refine ⟨⟨?_, ?_, fun g hg => ?_⟩, b.mv o' (q_gi_nk (by decide)) (fun a j u v z => ⟨⟨q_gi_ne (by omega), rfl⟩, rfl⟩), (q_gi_nk (by decide)).trans c⟩
  · rw [q_gi_eq, List.length_append]
    simp
  · rw [List.length_append]
    simp
    omega
  · rw [List.length_append] at hg
    simp only [List.length_cons, List.length_nil] at hg
    by_cases z : g = pr.1.length
    · rw [q_gde z, z]
      exact hF'.bk (fun x _ => bk x)
    · rw [q_gdl (by omega)]
      exact (a3 g (by omega)).bk (fun x _ => bk x)
/-- behind the body of a function -/
theorem rd_fun3 {hi : Int} (hc : ci t N B s w) (hg : bm_gr w (t + 112) 4 = some f) (hf : f = pg_fn (t + 4) (bm_gi w (t + 4) 4)) (hx : hi = t_P B (p + 1)) (hl : s.1 = false → bm_gi w (t + 112) 2 = 0 → yg t B pr ins (p + 1) s.2 w)
    (hq : ∀ w', ci t N B (f_x (t_K B) 19 (f_bod (t_K B) (f_x (t_K B) 22 (f_x (t_K B) 17 s)))) w' → kf t w w' → pz t B (f_x (t_K B) 19 (f_bod (t_K B) (f_x (t_K B) 22 (f_x (t_K B) 17 s)))) (y_fun3 (t_K B) (t_V B) pr ins p s.2) (fun pr' => yl t B pr' (f_x (t_K B) 19 (f_bod (t_K B) (f_x (t_K B) 22 (f_x (t_K B) 17 s)))).2 w') w w' → Φ (.inl none) w') : bk_X0_readFun_108 (d + 1252) Φ (t + 112) hi w := by
  subst hx
  obtain ⟨c1, c2, c3, c4, c5, c6, c7, c8⟩ := hc
  have rf := pg_fn_r (t + 4) (bm_gi w (t + 4) 4)
  rw [← hf] at rf
  refine vb_X0_readFun_108 ?_
  simp only [bm_c0_v, bm_c1_v, bm_c2_v, bm_c3_v, bm_c4_v, bm_c5_v, bm_u_some, decide_eq_true_eq, true_and, and_true, and_self, Bool.not_eq_true, Bool.not_eq_true', decide_eq_false_iff_not, if_true, if_false, ite_true, ite_false, eq_self, c2.1, c2.2.1, c1.1.1.1]
  refine rt_expect c1 (by decide) (fun w1 h1 f1 q1 => ?_)
  have hk1 := c2.tf f1
  simp only [bm_c0_v, bm_c1_v, bm_c2_v, bm_c3_v, bm_c4_v, bm_c5_v, bm_u_some, decide_eq_true_eq, true_and, and_true, and_self, Bool.not_eq_true, Bool.not_eq_true', decide_eq_false_iff_not, if_true, if_false, ite_true, ite_false, eq_self, hk1.1, hk1.2.1, h1.1.1.1]
  refine rt_expect h1 (by decide) (fun w2 h2 f2 q2 => ?_)
  have F2 := f1.tr f2
  have Q2 := q1.tr q2
  have hk2 := hk1.tf f2
  have P2 : sh_Pg (t + 4) w2 := c3.fr F2.1
  have g4 : bm_gi w2 (t + 4) 4 = bm_gi w (t + 4) 4 := F2.1.gi (by omega)
  have gr2 : bm_gr w2 (t + 112) 4 = some f := by rw [F2.1.gr]; exact hg
  rw [bm_c1_v]
  refine ⟨hk2.1, ?_⟩
  -- what the tokens are, if all is well
  have okB : (f_x (t_K B) 22 (f_x (t_K B) 17 s)).1 = false → s = (false, s.2) ∧ f_x (t_K B) 22 (f_x (t_K B) 17 s) = (false, s.2 + 2) ∧ y_I (t_K B) (s.2 + 2) = y_I (t_K B) s.2 := fun z => by
    have a := f_x_ok z
    have b := f_x_ok (k := 17) (s := s) (by rw [a.1])
    have e : s.1 = false ∧ y_I (t_K B) (f_x (t_K B) 22 (f_x (t_K B) 17 s)).2 = y_I (t_K B) s.2 := ((f_noi_x (K := t_K B) (k := 17) (by decide)).co (f_noi_x (k := 22) (by decide))) s z
    rw [b.2.2] at a e ⊢
    simp only at a e
    rw [a.2.2] at e ⊢
    exact ⟨b.1, rfl, e.2⟩
  have bodB := fun z => f_far.ok (f_far_bod (N := N) c1.1.2.2.2) (s := f_x (t_K B) 22 (f_x (t_K B) 17 s)) h2.2.2.2.2.1 z
  -- names
  obtain ⟨E, k, e1, e2, e3, e4⟩ : ∃ (E : q_E) (k : Nat), k ≤ 3 ∧ ev t f k E (bm_gi w (t + 4) 4) w2 ∧ he0 E (bm_gi w (t + 4) 4) k ∧ (s.1 = false → bm_gi w (t + 112) 2 = 0 → y_I (t_K B) (f_x (t_K B) 22 (f_x (t_K B) 17 s)).2 = y_I (t_K B) s.2 → E = y_E (t_V B) pr.1 ins ∧ k = ins.length ∧ yg t B pr ins (p + 1) (f_x (t_K B) 22 (f_x (t_K B) 17 s)).2 w2) := by
    by_cases live : s.1 = false ∧ bm_gi w (t + 112) 2 = 0 ∧ y_I (t_K B) (f_x (t_K B) 22 (f_x (t_K B) 17 s)).2 = y_I (t_K B) s.2
    · have y0 := hl live.1 live.2.1
      have y2 := y0.tf c5 F2 live.2.2
      have ee : bm_gi w (t + 4) 4 = (pr.1.length : Int) := y0.1.1.1
      have y3 := y2.ev
      rw [← ee, ← hf] at y3
      exact ⟨_, ins.length, y2.2.2.2.1.2.1, y3.1, y3.2.1, fun _ _ _ => ⟨rfl, rfl, y2⟩⟩
    · obtain ⟨E, k, a1, a2, a3⟩ := ev.dead (t := t) (w := w2) (f := f) (by rw [g4]; exact hf) (fun i => by
        have := pg_fn_r (t + 4) i
        rw [F2.1.gi (by omega)]; exact c8 i) (by rw [g4]; exact c6.1)
      rw [g4] at a2 a3
      exact ⟨E, k, a1, a2, a3, fun x y z => absurd ⟨x, y, z⟩ live⟩
  refine rd_body (d := d) (P := y_P (t_K B) (f_x (t_K B) 22 (f_x (t_K B) 17 s)).2) (I := y_I (t_K B)) (y_hp _ _) e3 h2 hk2 P2 gr2 hf c6.1 c6.2 e1 e2 (fun w3 h3 b3 m3 => ?_)
  have hf2 : sh_Fn f w2 := by rw [hf]; exact P2.fn _
  have hf3 : sh_Fn f w3 := hf2.fr b3.1
  have gr3 : bm_gr w3 (t + 112) 4 = some f := by rw [b3.1.gr]; exact gr2
  have hk3 : rk t w3 := ⟨by rw [b3.1.kt]; exact hk2.1, by rw [b3.1.gr]; exact hk2.2.1, by rw [b3.1.gr]; exact hk2.2.2⟩
  have C3 : ci t N B (f_bod (t_K B) (f_x (t_K B) 22 (f_x (t_K B) 17 s))) w3 := by
    have F23 : q_fr (fun a => a = t ∨ a = t + 4 ∨ a = t + 112 ∨ a = f ∨ a = f + 5 ∨ a = f + 6 ∨ a = f + 7) w w3 := (F2.1.mo (fun a z => by omega)).tr b3.1
    refine ci.mv ⟨c1, c2, c3, c4, c5, c6, c7, c8⟩ F23 h3 ?_ ?_ (fun i => ?_)
    · rw [b3.2.2.1 4 (by decide), g4]; exact c6
    · rw [b3.2.2.1 5 (by decide), F2.1.gi (by omega)]; exact c7
    · have r1 := pg_fn_r (t + 4) i
      by_cases z : pg_fn (t + 4) i = f
      · rw [z, b3.2.2.2.2.1 6 (by decide), F2.1.gi (by omega), ← z]; exact c8 i
      · have : pg_fn (t + 4) i + 8 ≤ f ∨ f + 8 ≤ pg_fn (t + 4) i := pg_fn_ap hf z
        rw [F23.gi (by omega)]; exact c8 i
  have K3 : kf t w w3 := (kf.tf F2).tr (bf.kf b3 (by omega) (by omega))
  -- what the body and its size tell
  have tell : ∀ w4 : bm_W, (w4 = if bm_gi w3 f 9 ≤ 200 then w3 else cp_put w3 (t + 112) 4 (t_P B (p + 1))) → pz t B (f_bod (t_K B) (f_x (t_K B) 22 (f_x (t_K B) 17 s))) (y_fun3 (t_K B) (t_V B) pr ins p s.2) (fun pr' => ∃ F, pr' = (pr.1 ++ [F], pr.2) ∧ yl t B pr (f_bod (t_K B) (f_x (t_K B) 22 (f_x (t_K B) 17 s))).2 w4 ∧ yfn t B pr.1.length F w4 ∧ pr.1.length < 6) w w4 := fun w4 hw4 z => by
    obtain ⟨o1, o2, o3⟩ := okB (bodB z)
    obtain ⟨m4, m5⟩ := m3 z
    have st : cp_st t w3 w4 := by
      rw [hw4]
      split
      · exact fun _ => ⟨rfl, rfl⟩
      · exact cp_put_st
    refine ⟨(Q2.st.tr m4).tr st, fun c0 => ?_⟩
    have s0 : s.1 = false := by rw [o1]
    obtain ⟨rfl, rfl, yg2⟩ := e4 s0 c0 (by rw [o2]; exact o3)
    have m6 := m5 ((Q2 2).trans c0)
    rw [o2] at m6 z yg2 ⊢
    simp only at m6
    have yg2 : yg t B pr ins (p + 1) (s.2 + 2) w2 := yg2
    unfold y_fun3
    have ee : bm_gi w (t + 4) 4 = (pr.1.length : Int) := g4.symm.trans yg2.1.1.1
    have rb := f_bod_rng (K := t_K B) (s := (false, s.2 + 2))
    simp only at rb
    cases hr : m_ex (t_K B) (t_V B) (s.2 + 2 + 50) (y_P (t_K B) (s.2 + 2)) (y_I (t_K B)) (y_E (t_V B) pr.1 ins) 415 6 0 (s.2 + 2) [] with
    | inl e =>
      rw [hr] at m6
      have := st (by rw [m6.2.1]; exact m6.1)
      exact ⟨m6.1, this.1.trans m6.2.1, this.2.trans m6.2.2⟩
    | inr lz =>
      obtain ⟨l, z0⟩ := lz
      rw [hr] at m6
      rw [ee] at hf
      have y7 := yg2.2.2.2.2.2
      rw [← hf] at y7
      have lf0 : lf t f (y_P (t_K B) (s.2 + 2)) (y_I (t_K B)) w2 0 (s.2 + 2) := ⟨y7.1, by rw [y_P_0 _ _ _ (Nat.le_refl _)]; exact y7.2.1, yg2.1.2.2⟩
      obtain ⟨cc, d1, d2, d3, d4⟩ := m6.2 0 lf0 rfl y7.2.2 (by rw [ee]; exact (yg.ev (s := (false, s.2 + 2)) yg2).2.2)
      simp only at d1 d2 d3 d4 ⊢
      by_cases c200 : bm_gi w3 f 9 ≤ 200
      · rw [if_pos c200] at hw4
        rw [if_neg (by omega)]
        subst hw4
        rw [ee] at d4
        rw [hf] at d1 d3 d4 b3
        have fin := yg.done yg2 (c5.fr F2.1) b3 z d1 d2 d3 d4 (by rw [hf] at c200; omega)
        exact ⟨m6.1, _, rfl, fin.1, fin.2, yg2.2.1⟩
      · rw [if_neg c200] at hw4
        rw [if_pos (by omega)]
        subst hw4
        exact ⟨(show (4 : Int) ≠ 0 by decide), (cp_put_0 m6.1).1, (cp_put_0 m6.1).2⟩
  -- the end
  have fin : ∀ w4 : bm_W, ci t N B (f_bod (t_K B) (f_x (t_K B) 22 (f_x (t_K B) 17 s))) w4 → kf t w w4 → pz t B (f_bod (t_K B) (f_x (t_K B) 22 (f_x (t_K B) 17 s))) (y_fun3 (t_K B) (t_V B) pr ins p s.2) (fun pr' => ∃ F, pr' = (pr.1 ++ [F], pr.2) ∧ yl t B pr (f_bod (t_K B) (f_x (t_K B) 22 (f_x (t_K B) 17 s))).2 w4 ∧ yfn t B pr.1.length F w4 ∧ pr.1.length < 6) w w4 →
      ∀ w6 : bm_W, rt t N f_T B (f_x (t_K B) 19 (f_bod (t_K B) (f_x (t_K B) 22 (f_x (t_K B) 17 s)))) w6 → tf t w4 w6 → cq t w4 w6 → Φ (.inl none) (if 6 ≤ bm_gi w6 (t + 4) 4 then w6 else bm_si w6 (t + 4) 4 (bm_w (bm_gi w6 (t + 4) 4 + 1))) := by
    intro w4 C4 K4 p4 w6 h6 f6 q6
    have C6 := C4.tf f6 h6
    have n6 := C6.2.2.2.2.2.1
    have e6 : bm_gi w6 (t + 4) 4 = bm_gi w4 (t + 4) 4 := f6.1.gi (by omega)
    have xf : q_fr (fun a => a = t + 4) w6 (if 6 ≤ bm_gi w6 (t + 4) 4 then w6 else bm_si w6 (t + 4) 4 (bm_w (bm_gi w6 (t + 4) 4 + 1))) := by
      split
      · exact q_fr.rf
      · exact q_fr.rf.si rfl
    refine hq _ ?_ ((K4.tr (kf.tf f6)).tr (kf.of xf (fun a z => Or.inl (by omega)))) ?_
    · refine C6.mv xf ?_ ?_ ?_ (fun i => ?_)
      · refine h6.same (h6.1.1.fr xf) (fun a j _ _ => xf.gi (by omega)) (fun j => xf.gl (by omega))
      · split
        · exact n6
        · rw [q_gi_eq, q_wI ⟨by omega, by omega⟩]; omega
      · split
        · exact C6.2.2.2.2.2.2.1
        · rw [q_gi_nk (by decide)]; exact C6.2.2.2.2.2.2.1
      · have := pg_fn_r (t + 4) i
        rw [xf.gi (by omega)]; exact C6.2.2.2.2.2.2.2 i
    · have c6' : cq t w4 (if 6 ≤ bm_gi w6 (t + 4) 4 then w6 else bm_si w6 (t + 4) 4 (bm_w (bm_gi w6 (t + 4) 4 + 1))) := fun j => (xf.gi (by omega)).trans (q6 j)
      refine p4.sil (fun z => (f_noi_x (K := t_K B) (k := 19) (by decide) _ z).1) c6' (fun a z c0 ha => ?_)
      rintro ⟨F, rfl, y1, y2, y3⟩
      have hI := (f_noi_x (K := t_K B) (k := 19) (by decide) _ z).2
      have y5 := yl_keep y1 y2 y3 C4.2.2.2.2.1 f6 hI
      have e7 : bm_gi w6 (t + 4) 4 = (pr.1.length : Int) := e6.trans y1.1.1
      rw [if_neg (by omega), e7, q_wI ⟨by omega, by omega⟩]
      exact y5
  by_cases c200 : bm_gi w3 f 9 ≤ 200
  · have t3 := tell w3 (by rw [if_pos c200])
    simp only [bm_c0_v, bm_c1_v, bm_c2_v, bm_c3_v, bm_c4_v, bm_c5_v, bm_u_some, decide_eq_true_eq, true_and, and_true, and_self, Bool.not_eq_true, Bool.not_eq_true', decide_eq_false_iff_not, if_true, if_false, ite_true, ite_false, eq_self, hk3.1, gr3, hf3.1, hk3.2.1, h3.1.1.1]
    rw [if_pos c200]
    refine rt_expect h3 (by decide) (fun w6 h6 f6 q6 => ?_)
    have hk6 := hk3.tf f6
    have P6 : sh_Pg (t + 4) w6 := C3.2.2.1.fr f6.1
    simp only [bm_c0_v, bm_c1_v, bm_c2_v, bm_c3_v, bm_c4_v, bm_c5_v, bm_u_some, decide_eq_true_eq, true_and, and_true, and_self, Bool.not_eq_true, Bool.not_eq_true', decide_eq_false_iff_not, if_true, if_false, ite_true, ite_false, eq_self, hk6.1, hk6.2.2, P6.1, sp_keepFun P6]
    exact fin w3 C3 K3 t3 w6 h6 f6 q6
  · have t3 := tell (cp_put w3 (t + 112) 4 (t_P B (p + 1))) (by rw [if_neg c200])
    have tp : tf t w3 (cp_put w3 (t + 112) 4 (t_P B (p + 1))) := tf.rf.put
    have hk4 := hk3.tf tp
    have C4 := C3.tf tp h3.put
    simp only [bm_c0_v, bm_c1_v, bm_c2_v, bm_c3_v, bm_c4_v, bm_c5_v, bm_u_some, decide_eq_true_eq, true_and, and_true, and_self, Bool.not_eq_true, Bool.not_eq_true', decide_eq_false_iff_not, if_true, if_false, ite_true, ite_false, eq_self, hk3.1, gr3, hf3.1, sp_complain hk3.1]
    rw [if_neg c200]
    simp only [bm_c0_v, bm_c1_v, bm_c2_v, bm_c3_v, bm_c4_v, bm_c5_v, bm_u_some, decide_eq_true_eq, true_and, and_true, and_self, Bool.not_eq_true, Bool.not_eq_true', decide_eq_false_iff_not, if_true, if_false, ite_true, ite_false, eq_self, hk4.1, hk4.2.1, h3.put.1.1.1]
    refine rt_expect h3.put (by decide) (fun w6 h6 f6 q6 => ?_)
    have hk6 := hk4.tf f6
    have P6 : sh_Pg (t + 4) w6 := C4.2.2.1.fr f6.1
    simp only [bm_c0_v, bm_c1_v, bm_c2_v, bm_c3_v, bm_c4_v, bm_c5_v, bm_u_some, decide_eq_true_eq, true_and, and_true, and_self, Bool.not_eq_true, Bool.not_eq_true', decide_eq_false_iff_not, if_true, if_false, ite_true, ite_false, eq_self, hk6.1, hk6.2.2, P6.1, sp_keepFun P6]
    exact fin _ C4 (K3.tr (kf.tf tp)) t3 w6 h6 f6 q6
end RF
