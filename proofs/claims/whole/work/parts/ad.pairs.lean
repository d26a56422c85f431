/-! ===== pairs of inputs, in the model ===== -/
section PR
variable {d m f : Nat} {B : Int → Int} {ins : List y_in} {w : bm_W} {Φ : bm_Rt → bm_W → Prop}
theorem mp_pairs (S : sh_Md m w) (hi : mip m B f ins w) (hf : f < 6) (hk : y_fk ins) (h1 : 1 ≤ ins.length) : bm_Call bm_pg (d + 2) y_X12_pairs [bm_r (some m), bm_i (f : Int)] w Φ ↔ Φ (.inl (some (bm_i (y_prs ins)))) w := by
  refine bm_ans (fun Ψ q => vc_X12_pairs ?_)
  have n3 := hi.2.1
  have lk := y_rg_lk hk
  have n0 := s_n_rng lk 0
  have n1 := s_n_rng lk 1
  have n2 := s_n_rng lk 2
  have m1 := mul_bd n0.1 n0.2.1 n1.1 n1.2.1
  have m2 := mul_bd n0.1 n0.2.1 n2.1 n2.2.1
  have m3 := mul_bd n1.1 n1.2.1 n2.1 n2.2.1
  rw [y_rg_len] at n1 n2
  have e21 : ∀ v : Int, Ψ (.inl (some (bm_i v))) w → bk_X12_pairs_21 (d + 1) Ψ m (f : Int) v (ins.length : Int) w := fun v hv => by
    refine vb_X12_pairs_21 ?_
    simp only [bm_c0_v, bm_c1_v, bm_c2_v, bm_c3_v, bm_c4_v, bm_c5_v, bm_u_some, decide_eq_true_eq, true_and, and_true, and_self, Bool.not_eq_true, Bool.not_eq_true', decide_eq_false_iff_not, if_true, if_false, ite_true, ite_false, eq_self, S.1, S.g20, S.t20, S.n20, bm_in, Int.toNat_natCast, hi.1]
    rw [if_pos (by omega)]
    exact ⟨by omega, hv⟩
  have s21 : ∀ (i : Nat) (v : Int), i < ins.length → bk_X12_pairs_36 (d + 1) Ψ m (f : Int) v (i : Int) ((i + 1 : Nat) : Int) w → bk_X12_pairs_21 (d + 1) Ψ m (f : Int) v (i : Int) w := fun i v hil hb => by
    refine vb_X12_pairs_21 ?_
    simp only [bm_c0_v, bm_c1_v, bm_c2_v, bm_c3_v, bm_c4_v, bm_c5_v, bm_u_some, decide_eq_true_eq, true_and, and_true, and_self, Bool.not_eq_true, Bool.not_eq_true', decide_eq_false_iff_not, if_true, if_false, ite_true, ite_false, eq_self, S.1, S.g20, S.t20, S.n20, bm_in, Int.toNat_natCast, hi.1, bm_w1 (show i < 2147483647 by omega)]
    rw [if_neg (by omega)]
    exact ⟨by omega, hb⟩
  have e36 : ∀ (i : Nat) (v : Int), i < ins.length → bk_X12_pairs_21 (d + 1) Ψ m (f : Int) v ((i + 1 : Nat) : Int) w → bk_X12_pairs_36 (d + 1) Ψ m (f : Int) v (i : Int) (ins.length : Int) w := fun i v hil hb => by
    refine vb_X12_pairs_36 ?_
    simp only [bm_c0_v, bm_c1_v, bm_c2_v, bm_c3_v, bm_c4_v, bm_c5_v, bm_u_some, decide_eq_true_eq, true_and, and_true, and_self, Bool.not_eq_true, Bool.not_eq_true', decide_eq_false_iff_not, if_true, if_false, ite_true, ite_false, eq_self, S.1, S.g20, S.t20, S.n20, bm_in, Int.toNat_natCast, hi.1, bm_w1 (show i < 2147483647 by omega)]
    rw [if_pos (by omega)]
    exact ⟨by omega, hb⟩
  have s36 : ∀ (i j : Nat) (v : Int), i < j → j < ins.length → 0 ≤ v → v ≤ 10000 → 1 ≤ s_n (y_rg ins) i * s_n (y_rg ins) j ∧ s_n (y_rg ins) i * s_n (y_rg ins) j ≤ 1681 → bk_X12_pairs_36 (d + 1) Ψ m (f : Int) (v + s_n (y_rg ins) i * s_n (y_rg ins) j) (i : Int) ((j + 1 : Nat) : Int) w → bk_X12_pairs_36 (d + 1) Ψ m (f : Int) v (i : Int) (j : Int) w := fun i j v hij hj v0 v1 mm hb => by
    refine vb_X12_pairs_36 ?_
    simp only [bm_c0_v, bm_c1_v, bm_c2_v, bm_c3_v, bm_c4_v, bm_c5_v, bm_u_some, decide_eq_true_eq, true_and, and_true, and_self, Bool.not_eq_true, Bool.not_eq_true', decide_eq_false_iff_not, if_true, if_false, ite_true, ite_false, eq_self, S.1, S.1, S.g20, S.t20, S.n20, bm_in, Int.toNat_natCast, hi.1, mp_span S hi hf hk (show i < ins.length by omega), mp_span S hi hf hk hj, bm_c1_v, bm_w1 (show j < 2147483647 by omega), q_wI (x := s_n (y_rg ins) i * s_n (y_rg ins) j) ⟨by omega, by omega⟩, q_wI (x := v + s_n (y_rg ins) i * s_n (y_rg ins) j) ⟨by omega, by omega⟩]
    rw [if_neg (by omega)]
    exact ⟨by omega, hb⟩
  unfold y_prs at q
  simp only [bm_c0_v, bm_c1_v, bm_c2_v, bm_c3_v, bm_c4_v, bm_c5_v, bm_u_some, decide_eq_true_eq, true_and, and_true, and_self, Bool.not_eq_true, Bool.not_eq_true', decide_eq_false_iff_not, if_true, if_false, ite_true, ite_false, eq_self, S.1, S.1, S.g20, S.t20, S.n20, bm_in, Int.toNat_natCast, hi.1]
  refine ⟨by omega, ?_⟩
  rcases (show ins.length = 1 ∨ ins.length = 2 ∨ ins.length = 3 by omega) with z | z | z
  · rw [if_neg (by omega), n1.2.2 (by omega), Int.mul_one, Int.add_zero] at q
    rw [if_neg (by omega)]
    have := mp_span (d := d) (Φ := fun r1 w1 => bm_c1 (fun x1 => Ψ (.inl (some (bm_i x1))) w1) (fun E => Ψ (.inr E) w1) r1) S hi hf hk (i := 0) (by omega)
    refine this.mpr ?_
    rw [bm_c1_v]
    exact q
  · rw [if_neg (by omega), Int.add_zero] at q
    rw [if_pos (by omega)]
    refine s21 0 0 (by omega) (s36 0 1 0 (by decide) (by omega) (by decide) (by decide) m1 ?_)
    rw [Int.zero_add]
    rw [z] at e21 e36 s21
    refine e36 0 _ (by decide) (s21 1 _ (by decide) (e36 1 _ (by decide) (e21 _ q)))
  · rw [if_pos z] at q
    rw [if_pos (by omega)]
    refine s21 0 0 (by omega) (s36 0 1 0 (by decide) (by omega) (by decide) (by decide) m1 (s36 0 2 _ (by decide) (by omega) (by omega) (by omega) m2 ?_))
    rw [Int.zero_add]
    have s12 := s36 1 2 (s_n (y_rg ins) 0 * s_n (y_rg ins) 1 + s_n (y_rg ins) 0 * s_n (y_rg ins) 2) (by decide) (by omega) (by omega) (by omega) m3
    rw [z] at e21 e36 s21
    refine e36 0 _ (by decide) (s21 1 _ (by decide) (s12 (e36 1 _ (by decide) (s21 2 _ (by decide) (e36 2 _ (by decide) (e21 _ ?_))))))
    rw [show s_n (y_rg ins) 0 * s_n (y_rg ins) 1 + s_n (y_rg ins) 0 * s_n (y_rg ins) 2 + s_n (y_rg ins) 1 * s_n (y_rg ins) 2 = s_n (y_rg ins) 0 * s_n (y_rg ins) 1 + (s_n (y_rg ins) 0 * s_n (y_rg ins) 2 + s_n (y_rg ins) 1 * s_n (y_rg ins) 2) by omega]
    exact q
end PR
