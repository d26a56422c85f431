/-! ===== untried pairs of a function, in the class ===== -/
theorem sh_Un.fr {A : Nat → Prop} {u : Nat} {w w' : bm_W} (h : q_fr A w w') (hT : sh_Un u w) : sh_Un u w' := by
  unfold sh_Un
  rw [h.kt, h.kn, h.gr]
  exact hT
/-- masks of pairs -/
def u_ms (u : Nat) (M : Nat → Nat → Nat → Bool) (w : bm_W) : Prop := ∀ p a : Nat, p < 3 → a < 41 → bm_gl w (u + 1 + p) a = ((u_v (M p a) 41 : Nat) : Int)
def u_nr (ins : List y_in) (p : Nat) : Int := if p = 0 ∨ ins.length = 3 then s_n (y_rg ins) (u_i p) else 0
/-- pairs that are there -/
def u_0 (ins : List y_in) (p a b : Nat) : Bool := decide ((a : Int) < u_nr ins p) && decide ((b : Int) < s_n (y_rg ins) (u_j p))
/-- the least value of an input -/
def u_lo (ins : List y_in) (i : Nat) : Int := ((y_rg ins).getD i (0, 0)).1
/-- pairs that are not tried by the first tables -/
def u_M (pr : y_pr) (f : Nat) (ins : List y_in) (k p a b : Nat) : Bool := u_0 ins p a b && !u_ts pr f p (u_lo ins (u_i p) + a) (u_lo ins (u_j p) + b) k
/-- rows lie within the ranges of the inputs -/
def y_inr (pr : y_pr) : Prop := ∀ k, k < pr.2.length → ∀ i, i < (pr.2.getD k y_t0).2.2.length → ∀ c, c < 3 → ((y_rg (y_tF pr k).2.1).getD c (0, 0)).1 ≤ (((pr.2.getD k y_t0).2.2.getD i y_r0).1.getD c (0, 0)).1 ∧ (((pr.2.getD k y_t0).2.2.getD i y_r0).1.getD c (0, 0)).2 ≤ ((y_rg (y_tF pr k).2.1).getD c (0, 0)).2
theorem zC.un {t T g n : Nat} {B : Int → Int} {F : y_fn} {rows : List y_rw} {w : bm_W} {A : Nat → Prop} {w' : bm_W} (h : zC t T g n B F rows w) (hf : q_fr A w w') (hA : ∀ a, A a → t + 118 ≤ a ∧ a ≤ t + 124) : zC t T g n B F rows w' := by
  have off := h.off
  obtain ⟨h1, h2, h3, h4, ⟨b1, b2, b3, b4, b5⟩, h6, h7, h8⟩ := h
  have e : ∀ a j, ¬ (t + 118 ≤ a ∧ a ≤ t + 124) → bm_gi w' a j = bm_gi w a j ∧ bm_gl w' a j = bm_gl w a j := fun a j z => ⟨hf.gi (fun y => z (hA a y)), hf.gl (fun y => z (hA a y))⟩
  refine ⟨h1.fr hf, h2.fr hf, (e _ _ (by omega)).1.trans h3, h4.bk (fun x _ a u v j => ?_), ⟨(e _ _ (by omega)).1.trans b1, b2, (e _ _ (by omega)).1.trans b3, b4, fun i hi => ?_⟩, fun i r hi hr => h6 i r hi (by rw [← hf.gr]; exact hr), h7, h8⟩
  · have := pg_fn_off t (x : Int)
    exact e _ _ (by omega)
  · obtain ⟨r, r1, r2, r3⟩ := b5 i hi
    have := h6 i r (by omega) r1
    exact ⟨r, by rw [hf.gr]; exact r1, r2.bk (fun a u v j => e _ _ (by omega)), r3⟩
section UN
variable {d b t T u a g n r1 : Nat} {B : Int → Int} {F : y_fn} {rows : List y_rw} {pr : y_pr} {ins : List y_in} {w : bm_W} {Φ : bm_Rt → bm_W → Prop}
theorem sp_begin (S : sh_Fn a w) (hi : yi a B ins w) (U : sh_Un u w) (off : a + 7 < u) (hq : ∀ w', q_fr (fun x => u ≤ x ∧ x ≤ u + 3) w w' → (bm_gi w' u 3 = s_n (y_rg ins) 0 ∧ bm_gi w' u 4 = s_n (y_rg ins) 1 ∧ bm_gi w' u 5 = s_n (y_rg ins) 2) → u_ms u (u_0 ins) w' → Φ (.inl none) w') : bm_Call bm_pg (d + 3) y_X10_begin [bm_r (some u), bm_r (some a)] w Φ := by
  have gl := hi.rgl S
  have n0 := s_n_rng gl.2.2.1 0
  have n1 := s_n_rng gl.2.2.1 1
  have n2 := s_n_rng gl.2.2.1 2
  have F1 : q_fr (fun x => u ≤ x ∧ x ≤ u + 3) w (bm_si w u 3 (s_n (y_rg ins) 0)) := q_fr.rf.si ⟨by omega, by omega⟩
  have F2 : q_fr (fun x => u ≤ x ∧ x ≤ u + 3) w (bm_si (bm_si w u 3 (s_n (y_rg ins) 0)) u 4 (s_n (y_rg ins) 1)) := F1.si ⟨by omega, by omega⟩
  have F3 : q_fr (fun x => u ≤ x ∧ x ≤ u + 3) w (bm_si (bm_si (bm_si w u 3 (s_n (y_rg ins) 0)) u 4 (s_n (y_rg ins) 1)) u 5 (s_n (y_rg ins) 2)) := F2.si ⟨by omega, by omega⟩
  have g1 := gl.fr F1 (fun x _ _ => by omega)
  have g2 := gl.fr F2 (fun x _ _ => by omega)
  have w0 : rg_wd w (a + 2) 0 = s_n (y_rg ins) 0 := gl.wd (i := 0) (by decide)
  have w1 : rg_wd (bm_si w u 3 (s_n (y_rg ins) 0)) (a + 2) 1 = s_n (y_rg ins) 1 := g1.wd (i := 1) (by decide)
  have w2 : rg_wd (bm_si (bm_si w u 3 (s_n (y_rg ins) 0)) u 4 (s_n (y_rg ins) 1)) (a + 2) 2 = s_n (y_rg ins) 2 := g2.wd (i := 2) (by decide)
  have S1 := S.fr F1
  have S2 := S.fr F2
  have S3 := S.fr F3
  have U1 := U.fr F1
  have U2 := U.fr F2
  have U3 := U.fr F3
  have e6 : bm_gi (bm_si (bm_si (bm_si w u 3 (s_n (y_rg ins) 0)) u 4 (s_n (y_rg ins) 1)) u 5 (s_n (y_rg ins) 2)) a 6 = (ins.length : Int) := by
    rw [q_gi_ne (by omega), q_gi_ne (by omega), q_gi_ne (by omega)]
    exact hi.1
  refine vc_X10_begin ?_
  simp only [bm_c0_v, bm_c1_v, bm_c2_v, bm_c3_v, bm_c4_v, bm_c5_v, bm_u_some, decide_eq_true_eq, true_and, and_true, and_self, Bool.not_eq_true, Bool.not_eq_true', decide_eq_false_iff_not, if_true, if_false, ite_true, ite_false, eq_self, S.1, S.2.2.1, S.rg.1, sp_width (d := d) S.rg, w0, U.1, U1.1, S1.1, S1.2.2.1, S1.rg.1, sp_width (d := d) S1.rg, w1, U2.1, S2.1, S2.2.2.1, S2.rg.1, sp_width (d := d) S2.rg, w2, U3.1, S3.1, e6]
  have v3 : bm_gi (bm_si (bm_si (bm_si w u 3 (s_n (y_rg ins) 0)) u 4 (s_n (y_rg ins) 1)) u 5 (s_n (y_rg ins) 2)) u 3 = s_n (y_rg ins) 0 := by rw [q_gi_nk (by decide), q_gi_nk (by decide), q_gi_eq]
  have v4 : bm_gi (bm_si (bm_si (bm_si w u 3 (s_n (y_rg ins) 0)) u 4 (s_n (y_rg ins) 1)) u 5 (s_n (y_rg ins) 2)) u 4 = s_n (y_rg ins) 1 := by rw [q_gi_nk (by decide), q_gi_eq]
  have v5 : bm_gi (bm_si (bm_si (bm_si w u 3 (s_n (y_rg ins) 0)) u 4 (s_n (y_rg ins) 1)) u 5 (s_n (y_rg ins) 2)) u 5 = s_n (y_rg ins) 2 := q_gi_eq
  clear g1 g2 w0 w1 w2 S1 S2 U1 U2 F1 F2 e6 S3
  generalize bm_si (bm_si (bm_si w u 3 (s_n (y_rg ins) 0)) u 4 (s_n (y_rg ins) 1)) u 5 (s_n (y_rg ins) 2) = w3 at F3 U3 v3 v4 v5 ⊢
  have mo : ∀ {x : Nat} {y y' : bm_W}, x ≤ 3 → q_fr (fun z => z = u + x) y y' → q_fr (fun x => u ≤ x ∧ x ≤ u + 3) y y' := fun hx F => F.mo (fun z hz => by omega)
  have fin : ∀ (R1 R2 : Int), (R1 = if ins.length = 3 then s_n (y_rg ins) 0 else 0) → (R2 = if ins.length = 3 then s_n (y_rg ins) 1 else 0) → ∀ (w4 w5 w6 : bm_W), q_fr (fun z => z = u + 1) w3 w4 → q_fr (fun z => z = u + 2) w4 w5 → q_fr (fun z => z = u + 3) w5 w6 → (∀ a : Nat, a < 41 → bm_gl w4 (u + 1) a = ((u_v (fun b => decide ((a : Int) < s_n (y_rg ins) 0) && decide ((b : Int) < s_n (y_rg ins) 1)) 41 : Nat) : Int)) → (∀ a : Nat, a < 41 → bm_gl w5 (u + 2) a = ((u_v (fun b => decide ((a : Int) < R1) && decide ((b : Int) < s_n (y_rg ins) 2)) 41 : Nat) : Int)) → (∀ a : Nat, a < 41 → bm_gl w6 (u + 3) a = ((u_v (fun b => decide ((a : Int) < R2) && decide ((b : Int) < s_n (y_rg ins) 2)) 41 : Nat) : Int)) → Φ (.inl none) w6 := fun R1 R2 h1 h2 w4 w5 w6 F4 F5 F6 m4 m5 m6 => by
    refine hq w6 (((F3.tr (mo (by decide) F4)).tr (mo (by decide) F5)).tr (mo (by decide) F6)) ⟨?_, ?_, ?_⟩ (fun p x hp hx => ?_)
    · rw [F6.gi (by omega), F5.gi (by omega), F4.gi (by omega)]; exact v3
    · rw [F6.gi (by omega), F5.gi (by omega), F4.gi (by omega)]; exact v4
    · rw [F6.gi (by omega), F5.gi (by omega), F4.gi (by omega)]; exact v5
    · unfold u_0 u_nr u_i u_j
      rcases (show p = 0 ∨ p = 1 ∨ p = 2 by omega) with rfl | rfl | rfl
      · rw [show u + 1 + 0 = u + 1 from rfl, F6.gl (by omega), F5.gl (by omega), m4 x hx]
        rfl
      · rw [show u + 1 + 1 = u + 2 from rfl, F6.gl (by omega), m5 x hx, h1]
        simp
      · rw [show u + 1 + 2 = u + 3 from rfl, m6 x hx, h2]
        simp
  have tail : ∀ s0 : Int, (s0 = if ins.length = 3 then 1 else 0) → bk_X10_begin_49 (d + 2) Φ u s0 w3 := fun s0 hs => by
    refine vb_X10_begin_49 ?_
    simp only [bm_c0_v, bm_c1_v, bm_c2_v, bm_c3_v, bm_c4_v, bm_c5_v, bm_u_some, decide_eq_true_eq, true_and, and_true, and_self, Bool.not_eq_true, Bool.not_eq_true', decide_eq_false_iff_not, if_true, if_false, ite_true, ite_false, eq_self, U3.1, U3.2.1, v3, v4]
    refine sp_fill (d := d) U3.2.2.2.2.1 U3.2.2.2.2.2.1 ⟨by omega, by omega⟩ (fun w4 F4 m4 => ?_)
    rw [bm_c0_v]
    have U4 := U3.fr F4
    have x3 : bm_gi w4 u 3 = s_n (y_rg ins) 0 := (F4.gi (by omega)).trans v3
    have x5 : bm_gi w4 u 5 = s_n (y_rg ins) 2 := (F4.gi (by omega)).trans v5
    by_cases c : ins.length = 3
    · rw [if_pos c] at hs fin
      subst hs
      simp only [bm_c0_v, bm_c1_v, bm_c2_v, bm_c3_v, bm_c4_v, bm_c5_v, bm_u_some, decide_eq_true_eq, true_and, and_true, and_self, Bool.not_eq_true, Bool.not_eq_true', decide_eq_false_iff_not, if_true, if_false, ite_true, ite_false, eq_self, U4.1, U4.2.2.1, x3, x5]
      rw [if_neg (by decide)]
      refine sp_fill (d := d) U4.2.2.2.2.2.2.1 U4.2.2.2.2.2.2.2.1 ⟨by omega, by omega⟩ (fun w5 F5 m5 => ?_)
      rw [bm_c0_v]
      have U5 := U4.fr F5
      have y4 : bm_gi w5 u 4 = s_n (y_rg ins) 1 := ((F5.gi (by omega)).trans (F4.gi (by omega))).trans v4
      have y5 : bm_gi w5 u 5 = s_n (y_rg ins) 2 := (F5.gi (by omega)).trans x5
      simp only [bm_c0_v, bm_c1_v, bm_c2_v, bm_c3_v, bm_c4_v, bm_c5_v, bm_u_some, decide_eq_true_eq, true_and, and_true, and_self, Bool.not_eq_true, Bool.not_eq_true', decide_eq_false_iff_not, if_true, if_false, ite_true, ite_false, eq_self, U5.1, U5.2.2.2.1, y4, y5]
      rw [if_neg (by decide)]
      refine sp_fill (d := d) U5.2.2.2.2.2.2.2.2.1 U5.2.2.2.2.2.2.2.2.2 ⟨by omega, by omega⟩ (fun w6 F6 m6 => ?_)
      rw [bm_c0_v]
      exact fin _ _ rfl (by rw [if_pos c]) w4 w5 w6 F4 F5 F6 m4 m5 m6
    · rw [if_neg c] at hs fin
      subst hs
      simp only [bm_c0_v, bm_c1_v, bm_c2_v, bm_c3_v, bm_c4_v, bm_c5_v, bm_u_some, decide_eq_true_eq, true_and, and_true, and_self, Bool.not_eq_true, Bool.not_eq_true', decide_eq_false_iff_not, if_true, if_false, ite_true, ite_false, eq_self, U4.1, U4.2.2.1, x3, x5]
      refine sp_fill (d := d) U4.2.2.2.2.2.2.1 U4.2.2.2.2.2.2.2.1 ⟨by omega, by omega⟩ (fun w5 F5 m5 => ?_)
      rw [bm_c0_v]
      have U5 := U4.fr F5
      have y4 : bm_gi w5 u 4 = s_n (y_rg ins) 1 := ((F5.gi (by omega)).trans (F4.gi (by omega))).trans v4
      have y5 : bm_gi w5 u 5 = s_n (y_rg ins) 2 := (F5.gi (by omega)).trans x5
      simp only [bm_c0_v, bm_c1_v, bm_c2_v, bm_c3_v, bm_c4_v, bm_c5_v, bm_u_some, decide_eq_true_eq, true_and, and_true, and_self, Bool.not_eq_true, Bool.not_eq_true', decide_eq_false_iff_not, if_true, if_false, ite_true, ite_false, eq_self, U5.1, U5.2.2.2.1, y4, y5]
      refine sp_fill (d := d) U5.2.2.2.2.2.2.2.2.1 U5.2.2.2.2.2.2.2.2.2 ⟨by omega, by omega⟩ (fun w6 F6 m6 => ?_)
      rw [bm_c0_v]
      exact fin _ _ rfl (by rw [if_neg c]) w4 w5 w6 F4 F5 F6 m4 m5 m6
  by_cases c : ins.length = 3
  · rw [if_neg (by simp [c])]
    exact tail 1 (by rw [if_pos c])
  · rw [if_pos (by omega)]
    exact tail 0 (by rw [if_neg c])
theorem st_2 {L : List (Int × Int)} (hu : u = t + 118) (h1 : r1 + 2 < t + 118) (hin : ∀ i, i < rows.length → ∀ c, c < 3 → (L.getD c (0, 0)).1 ≤ ((rows.getD i y_r0).1.getD c (0, 0)).1 ∧ ((rows.getD i y_r0).1.getD c (0, 0)).2 ≤ (L.getD c (0, 0)).2) : ∀ (l : List y_rw) (i : Nat) (M : Nat → Nat → Nat → Bool) (w : bm_W), rows.drop i = l → i + l.length = rows.length → zC t T g n B F rows w → rgl r1 L w → sh_Un u w → u_ms u M w → (∀ w', q_fr (fun x => u + 1 ≤ x ∧ x ≤ u + 3) w w' → u_ms u (fun p a b => M p a b && !u_rs p l ((L.getD (u_i p) (0, 0)).1 + a) ((L.getD (u_j p) (0, 0)).1 + b)) w' → Φ (.inl none) w') → bk_X10_strikeTable_2 (d + 2) Φ u r1 T (i : Int) w
  | [], i, M, w, hd, hl, Z, gL, U, hM, hq => by
    have c5 := Z.2.2.2.2.1.1
    refine vb_X10_strikeTable_2 ?_
    simp only [bm_c0_v, bm_c1_v, bm_c2_v, bm_c3_v, bm_c4_v, bm_c5_v, bm_u_some, decide_eq_true_eq, true_and, and_true, and_self, Bool.not_eq_true, Bool.not_eq_true', decide_eq_false_iff_not, if_true, if_false, ite_true, ite_false, eq_self, Z.2.1.1, c5]
    rw [if_pos (by simp at hl; omega)]
    refine hq w q_fr.rf (fun p a hp ha => ?_)
    rw [hM p a hp ha]
    refine congrArg _ (u_v_ext (fun b _ => ?_))
    show _ = (M p a b && !false)
    rw [Bool.not_false, Bool.and_true]
  | R :: l, i, M, w, hd, hl, Z, gL, U, hM, hq => by
    obtain ⟨d1, d2, d3⟩ := q_drp (z := y_r0) hd
    obtain ⟨r, e1, e2, e3⟩ := Z.row d1
    have r12 := Z.2.2.2.2.1.2.1
    have c5 := Z.2.2.2.2.1.1
    have gl := e2.rgl
    have hi := hin i d1
    rw [← d2] at gl hi
    have off := Z.off
    refine vb_X10_strikeTable_2 ?_
    simp only [bm_c0_v, bm_c1_v, bm_c2_v, bm_c3_v, bm_c4_v, bm_c5_v, bm_u_some, decide_eq_true_eq, true_and, and_true, and_self, Bool.not_eq_true, Bool.not_eq_true', decide_eq_false_iff_not, if_true, if_false, ite_true, ite_false, eq_self, Z.2.1.1, c5, sp_rowAt (d := d + 1) Z.2.1, e1, e2.1.1, e2.1.2.1, U.1, U.2.1, bm_w1 (show i < 2147483647 by omega)]
    rw [if_neg (by simp at hl; omega)]
    refine sp_strike (d := d) (i := 0) (j := 1) U.2.2.2.2.1 U.2.2.2.2.2.1 gL gl (by decide) (by decide) hi (M 0) (fun a ha => hM 0 a (by decide) ha) (fun w1 F1 m1 => ?_)
    have U1 := U.fr F1
    have gL1 := gL.fr F1 (fun x _ _ => by omega)
    have gl1 := gl.fr F1 (fun x _ _ => by omega)
    simp only [bm_c0_v, bm_c1_v, bm_c2_v, bm_c3_v, bm_c4_v, bm_c5_v, bm_u_some, decide_eq_true_eq, true_and, and_true, and_self, Bool.not_eq_true, Bool.not_eq_true', decide_eq_false_iff_not, if_true, if_false, ite_true, ite_false, eq_self, U1.1, U1.2.2.1]
    refine sp_strike (d := d) (i := 0) (j := 2) U1.2.2.2.2.2.2.1 U1.2.2.2.2.2.2.2.1 gL1 gl1 (by decide) (by decide) hi (M 1) (fun a ha => (F1.gl (by omega)).trans (hM 1 a (by decide) ha)) (fun w2 F2 m2 => ?_)
    have U2 := U1.fr F2
    have gL2 := gL1.fr F2 (fun x _ _ => by omega)
    have gl2 := gl1.fr F2 (fun x _ _ => by omega)
    simp only [bm_c0_v, bm_c1_v, bm_c2_v, bm_c3_v, bm_c4_v, bm_c5_v, bm_u_some, decide_eq_true_eq, true_and, and_true, and_self, Bool.not_eq_true, Bool.not_eq_true', decide_eq_false_iff_not, if_true, if_false, ite_true, ite_false, eq_self, U2.1, U2.2.2.2.1]
    refine sp_strike (d := d) (i := 1) (j := 2) U2.2.2.2.2.2.2.2.2.1 U2.2.2.2.2.2.2.2.2.2 gL2 gl2 (by decide) (by decide) hi (M 2) (fun a ha => (F2.gl (by omega)).trans ((F1.gl (by omega)).trans (hM 2 a (by decide) ha))) (fun w3 F3 m3 => ?_)
    rw [bm_c0_v]
    have FF : q_fr (fun x => u + 1 ≤ x ∧ x ≤ u + 3) w w3 := ((F1.mo (fun z hz => by omega)).tr (F2.mo (fun z hz => by omega))).tr (F3.mo (fun z hz => by omega))
    refine st_2 hu h1 hin l (i + 1) (fun p a b => M p a b && !u_r p R.1 ((L.getD (u_i p) (0, 0)).1 + a) ((L.getD (u_j p) (0, 0)).1 + b)) w3 d3 (by simp at hl; omega) (Z.un FF (fun x hx => by omega)) (gL2.fr F3 (fun x _ _ => by omega)) (U2.fr F3) (fun p a hp ha => ?_) (fun w' F' m' => hq w' (FF.tr F') (fun p a hp ha => ?_))
    · rcases (show p = 0 ∨ p = 1 ∨ p = 2 by omega) with rfl | rfl | rfl
      · exact ((F3.gl (by omega)).trans (F2.gl (by omega))).trans (m1 a ha)
      · exact (F3.gl (by omega)).trans (m2 a ha)
      · exact m3 a ha
    · rw [m' p a hp ha]
      refine congrArg _ (u_v_ext (fun b _ => ?_))
      show ((M p a b && !u_r p R.1 _ _) && !u_rs p l _ _) = (M p a b && !(u_r p R.1 _ _ || u_rs p l _ _))
      rw [Bool.not_or, Bool.and_assoc]
/-- the pairs of a function that are not tried -/
theorem fu_19 {f : Nat} (hf : f < pr.1.length) (hin : y_inr pr) (hq : ∀ w', cZ b t B pr w' → u_ms (t + 118) (u_M pr f (pr.1.getD f y_f0).2.1 pr.2.length) w' → q_fr (fun x => t + 119 ≤ x ∧ x ≤ t + 121) w w' → Φ (.inl none) w') : ∀ (rem k : Nat) (w1 : bm_W), k + rem = pr.2.length → cZ b t B pr w1 → u_ms (t + 118) (u_M pr f (pr.1.getD f y_f0).2.1 k) w1 → q_fr (fun x => t + 119 ≤ x ∧ x ≤ t + 121) w w1 → bk_X11_findUntried_19 (d + 3) Φ b (f : Int) (pg_fn (t + 4) (f : Int)) (k : Int) w1
  | 0, k, w1, hk, h, hM, hF => by
    have c1 := h.1.1
    have S := h.2.1.1
    have l := h.2.1.2.1
    refine vb_X11_findUntried_19 ?_
    simp only [bm_c0_v, bm_c1_v, bm_c2_v, bm_c3_v, bm_c4_v, bm_c5_v, bm_u_some, decide_eq_true_eq, true_and, and_true, and_self, Bool.not_eq_true, Bool.not_eq_true', decide_eq_false_iff_not, if_true, if_false, ite_true, ite_false, eq_self, c1.2.1, c1.2.2.2.2.1, S.2.2.2.1.1, l]
    rw [if_pos (by omega)]
    have : k = pr.2.length := by omega
    subst this
    exact hq w1 h hM hF
  | rem + 1, k, w1, hk, h, hM, hF => by
    have c1 := h.1.1
    have S := h.2.1.1
    have l := h.2.1.2.1
    have l6 := h.2.1.2.2.1
    have k1 : k < pr.2.length := by omega
    have Z := h.2.1.2.2.2 k k1
    have SF := S.2.2.2.1.fn (f : Int)
    have off := pg_fn_off t (f : Int)
    refine vb_X11_findUntried_19 ?_
    simp only [bm_c0_v, bm_c1_v, bm_c2_v, bm_c3_v, bm_c4_v, bm_c5_v, bm_u_some, decide_eq_true_eq, true_and, and_true, and_self, Bool.not_eq_true, Bool.not_eq_true', decide_eq_false_iff_not, if_true, if_false, ite_true, ite_false, eq_self, c1.2.1, c1.2.2.2.2.1, c1.2.2.2.2.2.2.2.2.1, S.2.2.2.1.1, l, sp_tableAt (d := d + 2) S.2.2.2.1, Z.2.1.1, Z.2.2.1, SF.1, SF.2.2.1, c1.2.2.2.2.2.2.2.2.2.2.2.2.1, bm_w1 (show k < 2147483647 by omega)]
    rw [if_neg (by omega)]
    have hz : ∀ p x y, u_ts pr f p x y (k + 1) = (u_ts pr f p x y k || (decide ((pr.2.getD k y_t0).2.1 = f) && u_rs p (pr.2.getD k y_t0).2.2 x y)) := fun p x y => rfl
    by_cases c : (pr.2.getD k y_t0).2.1 = f
    · rw [if_neg (by omega)]
      have fn := h.2.2.1.2.2 f hf
      have gl := fn.2.1.rgl SF
      have ef : y_tF pr k = pr.1.getD f y_f0 := by unfold y_tF; rw [c]
      have hi := hin k k1
      rw [ef] at hi
      refine vc_X10_strikeTable (st_2 (d := d) (M := u_M pr f (pr.1.getD f y_f0).2.1 k) rfl (by omega) hi (pr.2.getD k y_t0).2.2 0 w1 rfl (by simp) Z gl c1.2.2.2.2.2.2.2.2.2.2.2.2 hM (fun w2 F2 m2 => ?_))
      rw [bm_c0_v]
      refine fu_19 hf hin hq rem (k + 1) w2 (by omega) (h.far (q_gw.of (F2.mo (fun x hx => by omega)))) (fun p a hp ha => ?_) (hF.tr (F2.mo (fun x hx => by omega)))
      rw [m2 p a hp ha]
      refine congrArg _ (u_v_ext (fun b _ => ?_))
      unfold u_M
      rw [hz, decide_eq_true c, Bool.true_and, Bool.not_or]
      exact Bool.and_assoc _ _ _
    · rw [if_pos (by omega)]
      refine fu_19 hf hin hq rem (k + 1) w1 (by omega) h (fun p a hp ha => ?_) hF
      rw [hM p a hp ha]
      refine congrArg _ (u_v_ext (fun b _ => ?_))
      unfold u_M
      rw [hz, decide_eq_false c, Bool.false_and, Bool.or_false]
theorem cZ.findUntried {f : Nat} (h : cZ b t B pr w) (hf : f < pr.1.length) (hin : y_inr pr) (hq : ∀ w', cZ b t B pr w' → u_ms (t + 118) (u_M pr f (pr.1.getD f y_f0).2.1 pr.2.length) w' → (bm_gi w' (t + 118) 3 = s_n (y_rg (pr.1.getD f y_f0).2.1) 0 ∧ bm_gi w' (t + 118) 4 = s_n (y_rg (pr.1.getD f y_f0).2.1) 1 ∧ bm_gi w' (t + 118) 5 = s_n (y_rg (pr.1.getD f y_f0).2.1) 2) → q_fr (fun x => t + 118 ≤ x ∧ x ≤ t + 121) w w' → Φ (.inl none) w') : bm_Call bm_pg (d + 4) y_X11_findUntried [bm_r (some b), bm_i (f : Int)] w Φ := by
  have c1 := h.1.1
  have S := h.2.1.1
  have SF := S.2.2.2.1.fn (f : Int)
  have off := pg_fn_off t (f : Int)
  have fn := h.2.2.1.2.2 f hf
  refine vc_X11_findUntried ?_
  simp only [bm_c0_v, bm_c1_v, bm_c2_v, bm_c3_v, bm_c4_v, bm_c5_v, bm_u_some, decide_eq_true_eq, true_and, and_true, and_self, Bool.not_eq_true, Bool.not_eq_true', decide_eq_false_iff_not, if_true, if_false, ite_true, ite_false, eq_self, c1.2.1, c1.2.2.2.2.1, S.2.2.2.1.1, sp_funAt (d := d + 2) S.2.2.2.1, c1.2.2.2.2.2.2.2.2.1, c1.2.2.2.2.2.2.2.2.2.2.2.2.1]
  refine sp_begin (d := d) SF fn.2.1 c1.2.2.2.2.2.2.2.2.2.2.2.2 (by omega) (fun w1 F1 e1 m1 => ?_)
  rw [bm_c0_v]
  refine fu_19 (w := w1) hf hin (fun w2 h2 m2 F2 => hq w2 h2 m2 ⟨(F2.gi (by omega)).trans e1.1, (F2.gi (by omega)).trans e1.2.1, (F2.gi (by omega)).trans e1.2.2⟩ (F1.tr (F2.mo (fun x hx => by omega)))) pr.2.length 0 w1 (by omega) (h.far (q_gw.of (F1.mo (fun x hx => by omega)))) (fun p a hp ha => ?_) q_fr.rf
  rw [m1 p a hp ha]
  refine congrArg _ (u_v_ext (fun b _ => ?_))
  unfold u_M
  show _ = (u_0 _ p a b && !false)
  rw [Bool.not_false, Bool.and_true]
end UN
