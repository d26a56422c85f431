/-! ===== the class: compile, all of it ===== -/
/-- what the class may change, and what room it takes -/
def cA (t a : Nat) : Prop := (t ≤ a + 3 ∧ a ≤ t + 121) ∨ t + 125 ≤ a
def cf (t : Nat) (w w' : bm_W) : Prop := (∃ c s, q_gw (cA t) (cA t) c s w w') ∧ bm_sz w' + 4 * rm t w' = bm_sz w + 4 * rm t w ∧ bm_sl w' + 13 * rm t w' = bm_sl w + 13 * rm t w
theorem cf.rf {t : Nat} {w : bm_W} : cf t w w := ⟨⟨0, 0, q_gw.rf⟩, rfl, rfl⟩
theorem cf.tr {t : Nat} {w w1 w2 : bm_W} (h : cf t w w1) (h2 : cf t w1 w2) : cf t w w2 := by
  obtain ⟨⟨c, s, a1⟩, a2, a3⟩ := h
  obtain ⟨⟨c', s', b1⟩, b2, b3⟩ := h2
  exact ⟨⟨_, _, a1.tr b1⟩, by omega, by omega⟩
theorem kf.cf {t : Nat} {w w' : bm_W} (h : kf t w w') : cf t w w' := by
  obtain ⟨⟨c, s, a1⟩, a2, a3⟩ := h
  exact ⟨⟨c, s, a1.mo (fun a z => by unfold kA at z; unfold cA; omega) (fun a z => by unfold kR at z; unfold cA; omega) (Nat.le_refl _) (Nat.le_refl _)⟩, a2, a3⟩
theorem cf.of {A : Nat → Prop} {t : Nat} {w w' : bm_W} (h : q_fr A w w') (hA : ∀ a, A a → cA t a) : cf t w w' := by
  refine ⟨⟨0, 0, q_gw.of (h.mo hA)⟩, ?_, ?_⟩
  · rw [rm_eq (t := t) (w := w) (w' := w') (fun a _ _ j => by rw [h.gr]), h.sz]
  · rw [rm_eq (t := t) (w := w) (w' := w') (fun a _ _ j => by rw [h.gr]), h.sl]
/-- kept tables stay where nothing of theirs changes -/
theorem yts.mv2 {t : Nat} {B : Int → Int} {ts : List y_tb} {w w' : bm_W} (h : yts t B ts w) (ho : rw_ok t w) (h5 : bm_gi w' (t + 4) 5 = bm_gi w (t + 4) 5) (hg : ∀ a j, ((t + 15 ≤ a ∧ a ≤ t + 21) ∨ (t + 70 ≤ a ∧ a ≤ t + 111) ∨ (t + 125 ≤ a ∧ a < bm_sz w)) → (bm_gi w' a j = bm_gi w a j ∧ bm_gl w' a j = bm_gl w a j) ∧ bm_gr w' a j = bm_gr w a j) : yts t B ts w' := by
  refine ⟨h5.trans h.1, h.2.1, fun k hk => ?_⟩
  have rg := pg_tb_off t (k : Int)
  have b := hg (pg_tb (t + 4) (k : Int))
  have b1 := hg (pg_tb (t + 4) (k : Int) + 1)
  refine (h.2.2 k hk).bk (fun j => (b j (by omega)).1.2) (fun j => (b j (by omega)).1.1) (fun j => (b1 j (by omega)).2) (fun i r hi hr => ?_)
  have := ho.2.1 _ i r ⟨⟨_, rfl⟩, hi, hr⟩
  exact fun a x y j => (hg a j (by omega)).1
section CC
variable {d b t N : Nat} {B : Int → Int} {s : Bool × Nat} {w : bm_W} {Φ : bm_Rt → bm_W → Prop} {pr : y_pr}
/-- steps on numbers of the class that keep what always holds -/
theorem cI.fr {A : Nat → Prop} {w' : bm_W} (h : cI b t w) (hf : q_fr A w w') (h1 : 0 ≤ bm_gi w' (b + 1) 1 ∧ bm_gi w' (b + 1) 1 ≤ 1500) (h4 : 0 ≤ bm_gi w' (t + 4) 4 ∧ bm_gi w' (t + 4) 4 ≤ 6) (h5 : 0 ≤ bm_gi w' (t + 4) 5 ∧ bm_gi w' (t + 4) 5 ≤ 6) (h6 : ∀ i : Int, 0 ≤ bm_gi w' (pg_fn (t + 4) i) 6 ∧ bm_gi w' (pg_fn (t + 4) i) 6 ≤ 3) : cI b t w' := by
  obtain ⟨a1, a2, a3, a4, a5, a6, a7⟩ := h
  have os := a6.1
  have eb := a1.1
  refine ⟨a1.gw (q_gw.of (R := fun _ => False) hf) (by omega) (fun z => z) (fun z => z) (fun z => z), ⟨a2.1.fr hf, by rw [hf.gr]; exact a2.2.1, a2.2.2.1.fr hf, a2.2.2.2.1, h1⟩, ⟨by rw [hf.kt]; exact a3.1, by rw [hf.gr]; exact a3.2.1, by rw [hf.gr]; exact a3.2.2⟩, a4.fr hf, a5.fr hf, a6.fr hf, h4, h5, h6⟩
theorem cI.frA {A : Nat → Prop} {w' : bm_W} (h : cI b t w) (hf : q_fr A w w') (h1 : ¬ A (b + 1)) (h4 : ¬ A (t + 4)) (h6 : ∀ i : Int, ¬ A (pg_fn (t + 4) i)) : cI b t w' :=
  h.fr hf (by rw [hf.gi h1]; exact h.2.1.2.2.2.2) (by rw [hf.gi h4]; exact h.2.2.2.2.2.2.1) (by rw [hf.gi h4]; exact h.2.2.2.2.2.2.2.1) (fun i => by rw [hf.gi (h6 i)]; exact h.2.2.2.2.2.2.2.2 i)
theorem cp_compile (h : cI b t w)
    (hq : ∀ (x pl : Int) (N : Nat) (w' : bm_W), cI b t w' → cf t w w' → bm_gi w' (b + 1) 1 = 0 → bm_gi w' b 7 = pl → bm_gi w' (t + 117) 2 = 0 → bm_gi w' (t + 113) 6 = bm_gi w (t + 113) 6 → N ≤ 1500 → (∀ j, j < N → t_K (tp_at w (b + 1)) j ≠ 0) → t_K (tp_at w (b + 1)) N = 0 → ans_c t (tp_at w (b + 1)) (y_cmp (t_K (tp_at w (b + 1))) (t_V (tp_at w (b + 1)))) (y_I (t_K (tp_at w (b + 1))) (f_its (t_K (tp_at w (b + 1))) f_T (false, 0)).2) x pl w' → Φ (.inl (some (bm_i x))) w') : bm_Call bm_pg (d + 1256) y_X11_compile [bm_r (some b)] w Φ := by
  have hh := h
  obtain ⟨a1, a2, a3, a4, a5, a6, a7, a8, a9⟩ := h
  obtain ⟨s0, s1, s2, s3, s4, s5, s6, s7, s8, s9, s10, s11, s12⟩ := a1
  have os := a6.1
  have nb : ∀ i : Int, ¬ (t ≤ pg_fn (t + 4) i ∧ pg_fn (t + 4) i ≤ t + 3) := fun i => by
    have := pg_fn_off t i
    omega
  refine vc_X11_compile ?_
  simp only [bm_c0_v, bm_c1_v, bm_c2_v, bm_c3_v, bm_c4_v, bm_c5_v, bm_u_some, decide_eq_true_eq, true_and, and_true, and_self, Bool.not_eq_true, Bool.not_eq_true', decide_eq_false_iff_not, if_true, if_false, ite_true, ite_false, eq_self, s1, s3, a2.1.1]
  refine sp_scan (d := d + 1250) a2 (fun w1 N F1 hN hk hk0 tab g8 g9 g10 => ?_)
  obtain ⟨B, hB⟩ : ∃ B, B = tp_at w (b + 1) := ⟨_, rfl⟩
  rw [← hB] at hk hk0 tab hq
  have I1 : cI b t w1 := hh.frA F1 (by omega) (by omega) nb
  have C1 : ci t N B (false, 0) w1 := ⟨⟨⟨I1.2.1.1, tab, hN, hk0⟩, g8, g10, g9, Nat.zero_le _, Nat.zero_le _⟩, I1.2.2.1, I1.2.2.2.1, I1.2.2.2.2.1, I1.2.2.2.2.2.1, I1.2.2.2.2.2.2.1, I1.2.2.2.2.2.2.2.1, I1.2.2.2.2.2.2.2.2⟩
  have t1 := I1.1
  simp only [bm_c0_v, bm_c1_v, bm_c2_v, bm_c3_v, bm_c4_v, bm_c5_v, bm_u_some, decide_eq_true_eq, true_and, and_true, and_self, Bool.not_eq_true, Bool.not_eq_true', decide_eq_false_iff_not, if_true, if_false, ite_true, ite_false, eq_self, t1.2.1, t1.2.2.2.2.2.1, I1.2.2.1.1]
  refine rd_translate (d := d) C1 (fun x w2 C2 k2 an => ?_)
  have I2 : cI b t w2 := by
    obtain ⟨⟨c, sl, G⟩, -, -⟩ := k2
    have os1 := I1.2.2.2.2.2.1.1
    have Rb : ¬ kR t b := by unfold kR; omega
    have Rb1 : ¬ kA t (b + 1) := by unfold kA; omega
    refine ⟨t1.gw G (by omega) Rb (by unfold kR; omega) (by unfold kR; omega), ⟨C2.1.1.1, ?_, I1.2.1.2.2.1.gw G (by omega) (by unfold kR; omega), I1.2.1.2.2.2.1, ?_⟩, C2.2.1, C2.2.2.1, C2.2.2.2.1, C2.2.2.2.2.1, C2.2.2.2.2.2.1, C2.2.2.2.2.2.2.1, C2.2.2.2.2.2.2.2⟩
    · rw [G.gr (by omega) (by unfold kR; omega)]; exact I1.2.1.2.1
    · rw [G.gi (by omega) Rb1]; exact I1.2.1.2.2.2.2
  have e6 : bm_gi w2 (t + 113) 6 = bm_gi w (t + 113) 6 := by
    obtain ⟨⟨c, sl, G⟩, -, -⟩ := k2
    have os1 := I1.2.2.2.2.2.1.1
    rw [G.gi (by omega) (by unfold kA; omega)]
    exact F1.gi (by omega)
  have t2 := I2.1
  simp only [bm_c0_v, bm_c1_v, bm_c2_v, bm_c3_v, bm_c4_v, bm_c5_v, bm_u_some, decide_eq_true_eq, true_and, and_true, and_self, Bool.not_eq_true, Bool.not_eq_true', decide_eq_false_iff_not, if_true, if_false, ite_true, ite_false, eq_self, t2.2.1, t2.2.2.2.2.2.1, I2.2.2.1.1, rd_errorPlace C2.1 C2.2.1]
  have X3 : q_fr (fun a => a = b) w2 (bm_si w2 b 7 (e_pl t w2)) := q_fr.rf.si rfl
  have I3 : cI b t (bm_si w2 b 7 (e_pl t w2)) := I2.frA X3 (by omega) (by omega) (fun i => by have := pg_fn_off t i; omega)
  have t3 := I3.1
  simp only [bm_c0_v, bm_c1_v, bm_c2_v, bm_c3_v, bm_c4_v, bm_c5_v, bm_u_some, decide_eq_true_eq, true_and, and_true, and_self, Bool.not_eq_true, Bool.not_eq_true', decide_eq_false_iff_not, if_true, if_false, ite_true, ite_false, eq_self, t3.2.1, t3.2.2.2.2.2.2.2.1, t3.2.2.2.2.2.2.2.2.2.1]
  refine vc_X6_forget ?_
  have X4 : q_fr (fun a => a = b ∨ a = t + 117) w2 (bm_si (bm_si w2 b 7 (e_pl t w2)) (t + 117) 2 0) := ((X3.mo (fun a z => Or.inl z)).si (Or.inr rfl))
  have I4 : cI b t (bm_si (bm_si w2 b 7 (e_pl t w2)) (t + 117) 2 0) := I2.frA X4 (by omega) (by omega) (fun i => by have := pg_fn_off t i; omega)
  have t4 := I4.1
  have v4 : bm_gi (bm_si (bm_si w2 b 7 (e_pl t w2)) (t + 117) 2 0) b 7 = e_pl t w2 := by rw [q_gi_ne (by omega), q_gi_eq]
  have v5 : bm_gi (bm_si (bm_si w2 b 7 (e_pl t w2)) (t + 117) 2 0) (t + 117) 2 = 0 := q_gi_eq
  simp only [bm_c0_v, bm_c1_v, bm_c2_v, bm_c3_v, bm_c4_v, bm_c5_v, bm_u_some, decide_eq_true_eq, true_and, and_true, and_self, Bool.not_eq_true, Bool.not_eq_true', decide_eq_false_iff_not, if_true, if_false, ite_true, ite_false, eq_self, t3.2.2.2.2.2.2.2.2.2.1, t4.2.1, t4.2.2.1, I4.2.1.2.2.1.1, sp_tcut I4.2.1.2.2.1]
  generalize bm_si (bm_si w2 b 7 (e_pl t w2)) (t + 117) 2 0 = w4 at X4 I4 t4 v4 v5 ⊢
  have X5 : q_fr (fun a => a = b ∨ a = t + 117 ∨ a = b + 1) w2 (bm_si w4 (b + 1) 1 0) := (X4.mo (fun a z => by omega)).si (Or.inr (Or.inr rfl))
  have I5 : cI b t (bm_si w4 (b + 1) 1 0) := by
    refine I2.fr X5 ?_ ?_ ?_ (fun i => ?_)
    · rw [q_gi_eq]; decide
    · rw [X5.gi (by omega)]; exact I2.2.2.2.2.2.2.1
    · rw [X5.gi (by omega)]; exact I2.2.2.2.2.2.2.2.1
    · have := pg_fn_off t i
      rw [X5.gi (by omega)]; exact I2.2.2.2.2.2.2.2.2 i
  refine ⟨by simp, hq x (e_pl t w2) N _ I5 (((cf.of F1 (fun a z => by unfold cA; omega)).tr k2.cf).tr (cf.of X5 (fun a z => by unfold cA; omega))) q_gi_eq (by rw [q_gi_ne (by omega)]; exact v4) (by rw [q_gi_ne (by omega)]; exact v5) ((X5.gi (by omega)).trans e6) hN hk hk0 ?_⟩
  have fn : ∀ (i : Int) (a : Nat), pg_fn (t + 4) i ≤ a → a < pg_fn (t + 4) i + 8 → ∀ j, bm_gi (bm_si w4 (b + 1) 1 0) a j = bm_gi w2 a j ∧ bm_gl (bm_si w4 (b + 1) 1 0) a j = bm_gl w2 a j := fun i a x y j => by
    have := pg_fn_off t i
    exact ⟨X5.gi (by omega), X5.gl (by omega)⟩
  cases hr : y_cmp (t_K B) (t_V B) with
  | inl e =>
    rw [hr] at an
    obtain ⟨q1, q2, q3, q4, q5, q6⟩ := an
    exact ⟨q1, q2, q3, (X5.gi (by omega)).trans q4, (X5.gi (by omega)).trans q5, (X5.gi (by omega)).trans q6⟩
  | inr pr =>
    rw [hr] at an
    obtain ⟨q1, q2, q3, q4, q5⟩ := an
    refine ⟨q1, q2, q3.bk (X5.gi (by omega)) (fun x _ a u v j => fn x a u v j), q4.mv2 I2.2.2.2.2.2.1 (X5.gi (by omega)) (fun a j u => ⟨⟨X5.gi (by omega), X5.gl (by omega)⟩, by rw [X5.gr]⟩), (X5.gi (by omega)).trans q5⟩
end CC
