/-! ===== rows of inputs of functions ===== -/
def s_pr (l : List (Int × Int)) : Nat → Int
  | 0 => 1
  | j + 1 => s_pr l j * s_n l j
theorem s_pr_rng {l : List (Int × Int)} (h : y_lk l) : ∀ j : Nat, 1 ≤ s_pr l j ∧ s_pr l j ≤ 41 ^ j
  | 0 => ⟨Int.le_refl _, Int.le_refl _⟩
  | j + 1 => by
    have a := s_pr_rng h j
    have b := s_n_rng h j
    have := mul_bd a.1 a.2 b.1 b.2.1
    rw [Int.pow_succ]
    exact this
theorem s_pr_3 {l : List (Int × Int)} (h : y_lk l) {j : Nat} (hj : j ≤ 3) : 1 ≤ s_pr l j ∧ s_pr l j ≤ 68921 := by
  have a := s_pr_rng h j
  rcases (show j = 0 ∨ j = 1 ∨ j = 2 ∨ j = 3 by omega) with rfl | rfl | rfl | rfl <;> omega
theorem s_pr_cs {l : List (Int × Int)} (h : y_lk l) (h1 : 1 ≤ l.length) (h3 : l.length ≤ 3) : s_pr l l.length = y_cs l := by
  rw [y_cs_eq h3]
  rcases (show l.length = 1 ∨ l.length = 2 ∨ l.length = 3 by omega) with z | z | z
  · rw [z, (s_n_rng h 1).2.2 (by omega), (s_n_rng h 2).2.2 (by omega)]
    show 1 * s_n l 0 = _
    omega
  · rw [z, (s_n_rng h 2).2.2 (by omega)]
    show 1 * s_n l 0 * s_n l 1 = _
    rw [Int.one_mul]; omega
  · rw [z]
    show 1 * s_n l 0 * s_n l 1 * s_n l 2 = _
    rw [Int.one_mul]
section IN
variable {d b t m f g : Nat} {B : Int → Int} {pr : y_pr} {ins : List y_in} {w w' : bm_W} {Φ : bm_Rt → bm_W → Prop}
theorem mm_all4 (S : sh_Md m w) (hi : mip m B f ins w) (hf : f < 6) (hk : y_fk ins) (hq : Φ (.inl (some (bm_i (s_pr (y_rg ins) ins.length)))) w) : ∀ (rem j : Nat), j + rem = ins.length → bk_X12_all_4 (d + 1) Φ m (f : Int) (s_pr (y_rg ins) j) (j : Int) w
  | 0, j, hj => by
    have n3 := hi.2.1
    refine vb_X12_all_4 ?_
    simp only [bm_c0_v, bm_c1_v, bm_c2_v, bm_c3_v, bm_c4_v, bm_c5_v, bm_u_some, decide_eq_true_eq, true_and, and_true, and_self, Bool.not_eq_true, Bool.not_eq_true', decide_eq_false_iff_not, if_true, if_false, ite_true, ite_false, eq_self, S.1, S.g20, S.t20, S.n20, bm_in, Int.toNat_natCast, hi.1]
    rw [if_pos (by omega)]
    have : j = ins.length := by omega
    rw [this]
    exact ⟨by omega, hq⟩
  | rem + 1, j, hj => by
    have n3 := hi.2.1
    have a := s_pr_3 (y_rg_lk hk) (show j + 1 ≤ 3 by omega)
    have e : s_pr (y_rg ins) (j + 1) = s_pr (y_rg ins) j * s_n (y_rg ins) j := rfl
    have ih := mm_all4 S hi hf hk hq rem (j + 1) (by omega)
    rw [e] at a ih
    refine vb_X12_all_4 ?_
    simp only [bm_c0_v, bm_c1_v, bm_c2_v, bm_c3_v, bm_c4_v, bm_c5_v, bm_u_some, decide_eq_true_eq, true_and, and_true, and_self, Bool.not_eq_true, Bool.not_eq_true', decide_eq_false_iff_not, if_true, if_false, ite_true, ite_false, eq_self, S.1, S.g20, S.t20, S.n20, S.1, bm_in, Int.toNat_natCast, hi.1, mp_span S hi hf hk (show j < ins.length by omega), bm_c1_v, bm_w1 (show j < 2147483647 by omega), q_wI (x := s_pr (y_rg ins) j * s_n (y_rg ins) j) ⟨by omega, by omega⟩]
    rw [if_neg (by omega)]
    exact ⟨by omega, ih⟩
theorem mp_all (S : sh_Md m w) (hi : mip m B f ins w) (hf : f < 6) (hk : y_fk ins) (h1 : 1 ≤ ins.length) : bm_Call bm_pg (d + 2) y_X12_all [bm_r (some m), bm_i (f : Int)] w Φ ↔ Φ (.inl (some (bm_i (y_cs (y_rg ins))))) w := by
  refine bm_ans (fun Ψ q => vc_X12_all ?_)
  have e := s_pr_cs (y_rg_lk hk) (by rw [y_rg_len]; exact h1) (by rw [y_rg_len]; exact hi.2.1)
  rw [y_rg_len] at e
  rw [← e] at q
  exact mm_all4 S hi hf hk q ins.length 0 (by omega)
abbrev y_in_ok (pr : y_pr) (f k i : Int) : Prop := (0 ≤ f ∧ f < (pr.1.length : Int)) ∧ (0 ≤ k ∧ k < y_cs (y_rg (pr.1.getD f.toNat y_f0).2.1)) ∧ 0 ≤ i ∧ i < ((pr.1.getD f.toNat y_f0).2.1.length : Int)
theorem mo_inputOf {f k i : Int} (h : mA m B pr w) (q1 : y_in_ok pr f k i → ∀ w', mO m 1 3 w w' → bm_gi w' m 0 = 0 → Φ (.inl (some (bm_i (s_val (y_rg (pr.1.getD f.toNat y_f0).2.1) k i.toNat)))) w') (q0 : ¬ y_in_ok pr f k i → ∀ v w', mO m 1 3 w w' → bm_gi w' m 0 = 1 → Φ (.inl (some (bm_i v))) w') : bm_Call bm_pg (d + 3) y_X12_inputOf [bm_r (some m), bm_i f, bm_i k, bm_i i] w Φ := by
  have h0 := h.thr (v := 0)
  have z0 : mO m 0 0 w (bm_si w m 0 0) := mO.rf.thr
  have zz : ∀ w', mO m 0 0 w w' → mO m 1 3 w w' := fun w' z => ⟨z.1.mo (fun _ y => y) (fun _ y => y) (by omega) (by omega), z.2⟩
  refine vc_X12_inputOf ?_
  simp only [bm_c0_v, bm_c1_v, bm_c2_v, bm_c3_v, bm_c4_v, bm_c5_v, bm_u_some, decide_eq_true_eq, true_and, and_true, and_self, Bool.not_eq_true, Bool.not_eq_true', decide_eq_false_iff_not, if_true, if_false, ite_true, ite_false, eq_self, h.1.1, h0.isFun (d := d), h0.1.1, bm_c1_v, mp_no h0.1.1]
  by_cases c : 0 ≤ f ∧ f < (pr.1.length : Int)
  · rw [if_neg (show ¬ (if 0 ≤ f ∧ f < (pr.1.length : Int) then (1 : Int) else 0) = 0 by rw [if_pos c]; decide)]
    obtain ⟨g, rfl⟩ : ∃ g : Nat, f = (g : Int) := ⟨f.toNat, by omega⟩
    have hg : g < pr.1.length := by omega
    have g6 := h.2.2.1.2.1
    have fn := h0.2.2.1.2.2.1 g hg
    have fk := h.2.2.2.2.1 g hg
    unfold y_in_ok at q1 q0
    rw [Int.toNat_natCast] at q1 q0
    have ip := fn.2.1
    have n1 := fn.2.2.1
    generalize (pr.1.getD g y_f0).2.1 = ins at ip n1 fk q1 q0
    have n3 := ip.2.1
    have cs := y_cs_3 (y_rg_lk fk) (by rw [y_rg_len]; exact n3)
    simp only [mp_all (d := d) h0.1 ip (show g < 6 by omega) fk n1, bm_c1_v, mp_isIn, q_wI (x := y_cs (y_rg ins) - 1) ⟨by omega, by omega⟩]
    by_cases c2 : 0 ≤ k ∧ k < y_cs (y_rg ins)
    · rw [if_neg (show ¬ (if 0 ≤ k ∧ k ≤ y_cs (y_rg ins) - 1 then (1 : Int) else 0) = 0 by rw [if_pos ⟨by omega, by omega⟩]; decide)]
      simp only [bm_c0_v, bm_c1_v, bm_c2_v, bm_c3_v, bm_c4_v, bm_c5_v, bm_u_some, decide_eq_true_eq, true_and, and_true, and_self, Bool.not_eq_true, Bool.not_eq_true', decide_eq_false_iff_not, if_true, if_false, ite_true, ite_false, eq_self, h0.1.1, h0.1.1, h0.1.g20, h0.1.t20, h0.1.n20, bm_in, Int.toNat_natCast, ip.1, mp_isIn, bm_c1_v, mp_no h0.1.1, q_wI (x := (ins.length : Int) - 1) ⟨by omega, by omega⟩]
      refine ⟨by omega, ?_⟩
      by_cases c3 : 0 ≤ i ∧ i < (ins.length : Int)
      · rw [if_neg (show ¬ (if 0 ≤ i ∧ i ≤ (ins.length : Int) - 1 then (1 : Int) else 0) = 0 by rw [if_pos ⟨by omega, by omega⟩]; decide)]
        obtain ⟨j, rfl⟩ : ∃ j : Nat, i = (j : Int) := ⟨i.toNat, by omega⟩
        refine mm_rowOf (d := d) h0.1 h0.2.1 ip (by omega) fk n1 c2.1 (by omega) (fun w2 G kt kn sz vals => ?_)
        rw [bm_c3_v]
        have hq := q1 ⟨c, c2, c3⟩ w2 ⟨z0.1.tr (G.mo (fun _ y => y.elim) (fun _ y => y) (Nat.le_refl _) (Nat.le_refl _)), fun k a b => (G.gi (show m < bm_sz (bm_si w m 0 0) by have := h0.2.1; omega) (fun y => y)).trans (q_gi_nk a)⟩ ((G.gi (show m < bm_sz (bm_si w m 0 0) by have := h0.2.1; omega) (fun y => y)).trans q_gi_eq)
        rw [Int.toNat_natCast] at hq ⊢
        have v := vals j (by omega)
        rw [if_pos (by omega)] at v
        rw [v]
        exact ⟨⟨kt, by rw [kn]; exact ⟨by omega, by omega⟩⟩, hq⟩
      · rw [if_pos (show (if 0 ≤ i ∧ i ≤ (ins.length : Int) - 1 then (1 : Int) else 0) = 0 by rw [if_neg (by omega)])]
        exact q0 (fun z => c3 z.2.2) 0 _ (zz _ z0.thr) q_gi_eq
    · rw [if_pos (show (if 0 ≤ k ∧ k ≤ y_cs (y_rg ins) - 1 then (1 : Int) else 0) = 0 by rw [if_neg (by omega)])]
      refine ⟨h0.1.1, ?_⟩
      rw [mp_no (d := d + 1) h0.1.1, bm_c1_v]
      exact q0 (fun z => c2 z.2.1) 0 _ (zz _ z0.thr) q_gi_eq
  · rw [if_pos (show (if 0 ≤ f ∧ f < (pr.1.length : Int) then (1 : Int) else 0) = 0 by rw [if_neg c])]
    exact q0 (fun z => c z.1) 0 _ (zz _ z0.thr) q_gi_eq
theorem yi.rgl {a : Nat} (h : yi a B ins w) (S : sh_Fn a w) : rgl (a + 2) (y_rg ins) w := by
  obtain ⟨h1, h2, h3, h4⟩ := h
  refine ⟨S.rg, by rw [y_rg_len]; exact h2, y_rg_lk (fun i hi => by have := h3 i hi; exact ⟨this.2.2.2.1, this.2.2.2.2.1, this.2.2.2.2.2⟩), fun c hc => ?_⟩
  rw [y_rg_at]
  rcases Nat.lt_or_ge c ins.length with z | z
  · have := h3 c z
    exact ⟨this.2.1, this.2.2.1⟩
  · have e : ins.getD c y_i0 = y_i0 := by rw [List.getD_eq_getElem?_getD, List.getElem?_eq_none z]; rfl
    rw [e]
    exact h4 c z hc
theorem co_inputOf {f k i : Int} (h : cZ b t B pr w) (q1 : y_in_ok pr f k i → Φ (.inl (some (bm_i (s_val (y_rg (pr.1.getD f.toNat y_f0).2.1) k i.toNat)))) w) (q0 : ¬ y_in_ok pr f k i → Φ (.inr "java/lang/IndexOutOfBoundsException") (bm_tw w)) : bm_Call bm_pg (d + 5) y_X11_inputOf [bm_r (some b), bm_i f, bm_i k, bm_i i] w Φ := by
  have c1 := h.1.1
  have S := h.2.1.1
  refine vc_X11_inputOf ⟨c1.2.1, h.exF (d := d + 2) (fun c => ?_) (fun c => q0 (fun z => c z.1))⟩
  rw [bm_c3_v]
  obtain ⟨g, rfl⟩ : ∃ g : Nat, f = (g : Int) := ⟨f.toNat, by omega⟩
  have fn := h.2.2.1.2.2 g (by omega)
  unfold y_in_ok at q1 q0
  rw [Int.toNat_natCast] at q1 q0
  have SF := S.2.2.2.1.fn (g : Int)
  have gl := fn.2.1.rgl SF
  have i6 := fn.2.1.1
  have n3 := fn.2.1.2.1
  have cs := gl.rc.2
  simp only [bm_c0_v, bm_c1_v, bm_c2_v, bm_c3_v, bm_c4_v, bm_c5_v, bm_u_some, decide_eq_true_eq, true_and, and_true, and_self, Bool.not_eq_true, Bool.not_eq_true', decide_eq_false_iff_not, if_true, if_false, ite_true, ite_false, eq_self, SF.1, SF.2.2.1, SF.rg.1, sp_rc (d := d + 1) gl, bm_c1_v]
  refine sp_below (d := d + 3) (fun c2 => ?_) (fun c2 => q0 (fun z => c2 z.2.1))
  rw [bm_c0_v]
  rw [i6]
  refine ⟨SF.1, sp_below (d := d + 3) (fun c3 => ?_) (fun c3 => q0 (fun z => c3 z.2.2))⟩
  rw [bm_c0_v]
  obtain ⟨j, rfl⟩ : ∃ j : Nat, i = (j : Int) := ⟨i.toNat, by omega⟩
  have hq := q1 ⟨c, c2, c3⟩
  rw [Int.toNat_natCast] at hq
  simp only [bm_c0_v, bm_c1_v, bm_c2_v, bm_c3_v, bm_c4_v, bm_c5_v, bm_u_some, decide_eq_true_eq, true_and, and_true, and_self, Bool.not_eq_true, Bool.not_eq_true', decide_eq_false_iff_not, if_true, if_false, ite_true, ite_false, eq_self, SF.1, SF.2.2.1, SF.rg.1, sp_valueAt (d := d + 1) gl (show j < 3 by omega) c2.1 (show k < 2147483648 by omega), bm_c1_v]
  exact hq
/-- pairs of a function's inputs -/
def y_prs (ins : List y_in) : Int := s_n (y_rg ins) 0 * s_n (y_rg ins) 1 + if ins.length = 3 then s_n (y_rg ins) 0 * s_n (y_rg ins) 2 + s_n (y_rg ins) 1 * s_n (y_rg ins) 2 else 0
theorem sp_pairCount {a : Nat} (hi : yi a B ins w) (S : sh_Fn a w) : bm_Call bm_pg (d + 3) y_X1_pairCount [bm_r (some a)] w Φ ↔ Φ (.inl (some (bm_i (y_prs ins)))) w := by
  refine bm_ans (fun Ψ q => vc_X1_pairCount ?_)
  have gl := hi.rgl S
  have n0 := s_n_rng gl.2.2.1 0
  have n1 := s_n_rng gl.2.2.1 1
  have n2 := s_n_rng gl.2.2.1 2
  have m1 := mul_bd n0.1 n0.2.1 n1.1 n1.2.1
  have m2 := mul_bd n0.1 n0.2.1 n2.1 n2.2.1
  have m3 := mul_bd n1.1 n1.2.1 n2.1 n2.2.1
  have w0 : rg_wd w (a + 2) 0 = s_n (y_rg ins) 0 := gl.wd (i := 0) (by decide)
  have w1 : rg_wd w (a + 2) 1 = s_n (y_rg ins) 1 := gl.wd (i := 1) (by decide)
  have w2 : rg_wd w (a + 2) 2 = s_n (y_rg ins) 2 := gl.wd (i := 2) (by decide)
  unfold y_prs at q
  simp only [bm_c0_v, bm_c1_v, bm_c2_v, bm_c3_v, bm_c4_v, bm_c5_v, bm_u_some, decide_eq_true_eq, true_and, and_true, and_self, Bool.not_eq_true, Bool.not_eq_true', decide_eq_false_iff_not, if_true, if_false, ite_true, ite_false, eq_self, S.1, S.2.2.1, S.rg.1, sp_width (d := d) S.rg, w0, w1, w2, bm_c1_v, hi.1, q_wI (x := s_n (y_rg ins) 0 * s_n (y_rg ins) 1) ⟨by omega, by omega⟩, q_wI (x := s_n (y_rg ins) 0 * s_n (y_rg ins) 2) ⟨by omega, by omega⟩, q_wI (x := s_n (y_rg ins) 1 * s_n (y_rg ins) 2) ⟨by omega, by omega⟩, q_wI (x := s_n (y_rg ins) 0 * s_n (y_rg ins) 2 + s_n (y_rg ins) 1 * s_n (y_rg ins) 2) ⟨by omega, by omega⟩, q_wI (x := s_n (y_rg ins) 0 * s_n (y_rg ins) 1 + (s_n (y_rg ins) 0 * s_n (y_rg ins) 2 + s_n (y_rg ins) 1 * s_n (y_rg ins) 2)) ⟨by omega, by omega⟩]
  by_cases c : ins.length = 3
  · rw [if_pos c] at q
    rw [if_neg (by omega)]
    exact q
  · rw [if_neg c, Int.add_zero] at q
    rw [if_pos (by omega)]
    exact q
end IN
