/-! ===== proposals, in the model ===== -/
/-- how many pairs of n values are not marked -/
def u_ow (n : Nat) (T : Nat → Bool) (v : Nat → Int) : Int := if n = 1 then 1 - bm_bo (T (u_ps 0 (v 0) 0)) else if n = 2 then 1 - bm_bo (T (u_ps 1 (v 0) (v 1))) else (1 - bm_bo (T (u_ps 1 (v 0) (v 1)))) + (1 - bm_bo (T (u_ps 2 (v 0) (v 2)))) + (1 - bm_bo (T (u_ps 3 (v 1) (v 2))))
theorem u_ow_rng (n : Nat) (T : Nat → Bool) (v : Nat → Int) : 0 ≤ u_ow n T v ∧ u_ow n T v ≤ 3 := by
  have a := fun k => bm_bo_01 (T k)
  have a0 := a (u_ps 0 (v 0) 0)
  have a1 := a (u_ps 1 (v 0) (v 1))
  have a2 := a (u_ps 2 (v 0) (v 2))
  have a3 := a (u_ps 3 (v 1) (v 2))
  unfold u_ow
  split
  · omega
  · split <;> omega
/-- the next row of inputs -/
theorem s_carry {q N : Int} (hN : 1 ≤ N) (hq : 0 ≤ q) : (q % N = N - 1 → (q + 1) % N = 0 ∧ (q + 1) / N = q / N + 1) ∧ (q % N ≠ N - 1 → (q + 1) % N = q % N + 1 ∧ (q + 1) / N = q / N) := by
  have e := Int.mul_ediv_add_emod q N
  have b0 := Int.emod_nonneg q (show N ≠ 0 by omega)
  have b1 := Int.emod_lt_of_pos q (show 0 < N by omega)
  constructor
  · intro h
    have e2 : q + 1 = 0 + N * (q / N + 1) := by rw [Int.mul_add, Int.mul_one]; omega
    rw [e2]
    exact ⟨by rw [Int.add_mul_emod_self_left]; exact Int.zero_emod _, by rw [Int.add_mul_ediv_left _ _ (show N ≠ 0 by omega)]; rw [Int.zero_ediv, Int.zero_add]⟩
  · intro h
    have e2 : q + 1 = (q % N + 1) + N * (q / N) := by omega
    rw [e2]
    exact ⟨by rw [Int.add_mul_emod_self_left, Int.emod_eq_of_lt (by omega) (by omega)], by rw [Int.add_mul_ediv_left _ _ (show N ≠ 0 by omega), Int.ediv_eq_zero_of_lt (by omega) (by omega), Int.zero_add]⟩
theorem s_rep_pos {l : List (Int × Int)} (h : y_lk l) (i : Nat) : 1 ≤ s_rep l i := by
  have n1 := s_n_rng h 1
  have n2 := s_n_rng h 2
  have m := mul_bd n2.1 n2.2.1 n1.1 n1.2.1
  unfold s_rep
  split
  · omega
  · split <;> omega
section PO
variable {d m f n a : Nat} {B : Int → Int} {pr : y_pr} {ins : List y_in} {w : bm_W} {Φ : bm_Rt → bm_W → Prop} {T : Nat → Bool} {L : List (Int × Int)}
theorem mp_untriedRow {v : Nat → Int} (h : mLk m f n a v w) (hf : f < 6) (h1 : 1 ≤ n) (h3 : n ≤ 3) (hv : ∀ i, -20 ≤ v i ∧ v i ≤ 20) (hT : mTr m T w) : bm_Call bm_pg (d + 2) y_X12_untried [bm_r (some m), bm_i (f : Int), bm_r (some a)] w Φ ↔ Φ (.inl (some (bm_i (u_ow n T v)))) w := by
  refine bm_ans (fun Ψ q => vc_X12_untried ?_)
  have S := h.1
  have bo := fun k => bm_bo_01 (T k)
  have s38 : ∀ (i : Nat) (z : Int), i < n → bk_X12_untried_55 (d + 1) Ψ m (f : Int) a z (i : Int) ((i + 1 : Nat) : Int) w → bk_X12_untried_38 (d + 1) Ψ m (f : Int) a z (i : Int) w := fun i z hi hb => by
    refine vb_X12_untried_38 ?_
    simp only [bm_c0_v, bm_c1_v, bm_c2_v, bm_c3_v, bm_c4_v, bm_c5_v, bm_u_some, decide_eq_true_eq, true_and, and_true, and_self, Bool.not_eq_true, Bool.not_eq_true', decide_eq_false_iff_not, if_true, if_false, ite_true, ite_false, eq_self, S.1, S.g20, S.t20, S.n20, bm_in, Int.toNat_natCast, h.2.1, bm_w1 (show i < 2147483647 by omega)]
    rw [if_neg (by omega)]
    exact ⟨by omega, hb⟩
  have e38 : ∀ z : Int, Ψ (.inl (some (bm_i z))) w → bk_X12_untried_38 (d + 1) Ψ m (f : Int) a z (n : Int) w := fun z hb => by
    refine vb_X12_untried_38 ?_
    simp only [bm_c0_v, bm_c1_v, bm_c2_v, bm_c3_v, bm_c4_v, bm_c5_v, bm_u_some, decide_eq_true_eq, true_and, and_true, and_self, Bool.not_eq_true, Bool.not_eq_true', decide_eq_false_iff_not, if_true, if_false, ite_true, ite_false, eq_self, S.1, S.g20, S.t20, S.n20, bm_in, Int.toNat_natCast, h.2.1]
    rw [if_pos (by omega)]
    exact ⟨by omega, hb⟩
  have e55 : ∀ (i : Nat) (z : Int), i < n → bk_X12_untried_38 (d + 1) Ψ m (f : Int) a z ((i + 1 : Nat) : Int) w → bk_X12_untried_55 (d + 1) Ψ m (f : Int) a z (i : Int) (n : Int) w := fun i z hi hb => by
    refine vb_X12_untried_55 ?_
    simp only [bm_c0_v, bm_c1_v, bm_c2_v, bm_c3_v, bm_c4_v, bm_c5_v, bm_u_some, decide_eq_true_eq, true_and, and_true, and_self, Bool.not_eq_true, Bool.not_eq_true', decide_eq_false_iff_not, if_true, if_false, ite_true, ite_false, eq_self, S.1, S.g20, S.t20, S.n20, bm_in, Int.toNat_natCast, h.2.1, bm_w1 (show i < 2147483647 by omega)]
    rw [if_pos (by omega)]
    exact ⟨by omega, hb⟩
  have s55 : ∀ (i j : Nat) (z : Int), i < j → j < n → 0 ≤ z → z ≤ 10 → bk_X12_untried_55 (d + 1) Ψ m (f : Int) a (z + (1 - bm_bo (T (u_ps (i + j) (v i) (v j))))) (i : Int) ((j + 1 : Nat) : Int) w → bk_X12_untried_55 (d + 1) Ψ m (f : Int) a z (i : Int) (j : Int) w := fun i j z hij hj z0 z1 hb => by
    have lt := u_ps_lt (b := i + j) (by omega) (hv i) (hv j)
    refine vb_X12_untried_55 ?_
    simp only [bm_c0_v, bm_c1_v, bm_c2_v, bm_c3_v, bm_c4_v, bm_c5_v, bm_u_some, decide_eq_true_eq, true_and, and_true, and_self, Bool.not_eq_true, Bool.not_eq_true', decide_eq_false_iff_not, if_true, if_false, ite_true, ite_false, eq_self, S.1, S.g20, S.t20, S.n20, S.g41, S.t41, S.n41, bm_in, Int.toNat_natCast, h.2.1, h.2.2.1, h.2.2.2.1, h.2.2.2.2 i (by omega), h.2.2.2.2 j hj, mp_pairAt (d := d) (show i + j ≤ 3 by omega) (hv i) (hv j), bm_w1 (show j < 2147483647 by omega), hT _ lt]
    rw [if_neg (by omega)]
    refine ⟨by omega, by omega, by omega, by omega, ?_⟩
    rcases bo (u_ps (i + j) (v i) (v j)) with y | y
    · rw [y] at hb ⊢
      rw [if_pos rfl, q_wI (x := z + 1) ⟨by omega, by omega⟩]
      exact hb
    · rw [y] at hb ⊢
      rw [if_neg (by decide), q_wI (x := z + 0) ⟨by omega, by omega⟩]
      exact hb
  simp only [bm_c0_v, bm_c1_v, bm_c2_v, bm_c3_v, bm_c4_v, bm_c5_v, bm_u_some, decide_eq_true_eq, true_and, and_true, and_self, Bool.not_eq_true, Bool.not_eq_true', decide_eq_false_iff_not, if_true, if_false, ite_true, ite_false, eq_self, S.1, S.g20, S.t20, S.n20, S.g41, S.t41, S.n41, bm_in, Int.toNat_natCast, h.2.1]
  refine ⟨by omega, ?_⟩
  unfold u_ow at q
  have r1 := bo (u_ps 1 (v 0) (v 1))
  have r2 := bo (u_ps 2 (v 0) (v 2))
  rcases (show n = 1 ∨ n = 2 ∨ n = 3 by omega) with rfl | rfl | rfl
  · rw [if_pos rfl] at q
    rw [if_neg (by simp)]
    have lt := u_ps_lt (b := 0) (by omega) (hv 0) (y := 0) (by decide)
    have pa := fun Ψ => mp_pairAt (d := d) (w := w) (Φ := Ψ) (i := 0) (j := 0) (x := v 0) (y := 0) (by decide) (hv 0) (by decide)
    have g0 : bm_gi w a (Int.toNat 0) = v 0 := h.2.2.2.2 0 (by decide)
    rw [g0]
    refine ⟨⟨h.2.2.1, by rw [h.2.2.2.1]; exact ⟨by omega, by omega⟩⟩, (pa _).mpr ?_⟩
    rw [bm_c1_v]
    simp only [bm_c0_v, bm_c1_v, bm_c2_v, bm_c3_v, bm_c4_v, bm_c5_v, bm_u_some, decide_eq_true_eq, true_and, and_true, and_self, Bool.not_eq_true, Bool.not_eq_true', decide_eq_false_iff_not, if_true, if_false, ite_true, ite_false, eq_self, S.1, S.g41, S.t41, S.n41, bm_in, Int.toNat_natCast, Nat.add_zero, hT _ lt]
    refine ⟨by omega, ?_⟩
    rcases bo (u_ps 0 (v 0) 0) with y | y
    · rw [y] at q ⊢
      rw [if_pos rfl]
      exact q
    · rw [y] at q ⊢
      rw [if_neg (by decide)]
      exact q
  · rw [if_neg (by decide), if_pos rfl] at q
    rw [if_pos (by simp)]
    refine s38 0 0 (by decide) (s55 0 1 0 (by decide) (by decide) (by decide) (by decide) (e55 0 _ (by decide) (s38 1 _ (by decide) (e55 1 _ (by decide) (e38 _ ?_)))))
    rw [Int.zero_add]
    exact q
  · rw [if_neg (by decide), if_neg (by decide)] at q
    rw [if_pos (by simp)]
    refine s38 0 0 (by decide) (s55 0 1 0 (by decide) (by decide) (by decide) (by decide) (s55 0 2 _ (by decide) (by decide) (by rw [Int.zero_add]; show 0 ≤ 1 - bm_bo (T (u_ps 1 (v 0) (v 1))); omega) (by rw [Int.zero_add]; show 1 - bm_bo (T (u_ps 1 (v 0) (v 1))) ≤ 10; omega) (e55 0 _ (by decide) (s38 1 _ (by decide) (s55 1 2 _ (by decide) (by decide) (by rw [Int.zero_add]; show 0 ≤ (1 - bm_bo (T (u_ps 1 (v 0) (v 1)))) + (1 - bm_bo (T (u_ps 2 (v 0) (v 2)))); omega) (by rw [Int.zero_add]; show (1 - bm_bo (T (u_ps 1 (v 0) (v 1)))) + (1 - bm_bo (T (u_ps 2 (v 0) (v 2)))) ≤ 10; omega) (e55 1 _ (by decide) (s38 2 _ (by decide) (e55 2 _ (by decide) (e38 _ ?_)))))))))
    rw [Int.zero_add]
    exact q
/-- the row of inputs goes on -/
theorem po_65 {k : Int} {best most all : Int} (hL : L = y_rg ins) (hf : f < 6) (hk : y_fk ins) (h0 : 0 ≤ k) (hk2 : k < 2147483640) (ha : a < m ∨ m + 31 < a) (w0 : bm_W) (hq : ∀ w', q_fr (fun b => b = a) w0 w' → (∀ j, j < ins.length → bm_gi w' a j = s_val L (k + 1) j) → bk_X12_proposed_27 d Φ m (f : Int) best most a all (k + 1) w') : ∀ (i : Nat) (w : bm_W), q_fr (fun b => b = a) w0 w → sh_Md m w → mip m B f ins w → bm_kt w a = 21 → bm_kn w a = 3 → i ≤ ins.length → (0 < i → (k + 1) / s_rep L (i - 1) = k / s_rep L (i - 1) + 1) → (∀ j, j < i → bm_gi w a j = s_val L k j) → (∀ j, i ≤ j → j < ins.length → bm_gi w a j = s_val L (k + 1) j) → bk_X12_proposed_65 d Φ m (f : Int) best most a all k ((i : Int) - 1) w
  | 0, w, F, S, hi, kt, kn, hn, hc, h1, h2 => by
    refine vb_X12_proposed_65 ?_
    rw [if_pos (by decide), if_pos (by decide), q_wI (x := k + 1) ⟨by omega, by omega⟩]
    exact hq w F (fun j hj => h2 j (by omega) hj)
  | i + 1, w, F, S, hi, kt, kn, hn, hc, h1, h2 => by
    have n3 := hi.2.1
    have lk : y_lk L := by rw [hL]; exact y_rg_lk hk
    have nn := s_n_rng lk i
    have rp := s_rep_pos lk i
    have hc' := hc (Nat.succ_pos _)
    simp only [Nat.add_sub_cancel] at hc'
    have q0 : 0 ≤ k / s_rep L i := Int.ediv_nonneg h0 (by omega)
    have cy := s_carry (q := k / s_rep L i) nn.1 q0
    have d1 := h1 i (by omega)
    have v := s_val_rng (k := k) (i := i) lk
    have v2 := s_val_rng (k := k + 1) (i := i) lk
    have en : s_n L i = (L.getD i (0, 0)).2 - (L.getD i (0, 0)).1 + 1 := rfl
    have ev : s_val L k i = (L.getD i (0, 0)).1 + k / s_rep L i % s_n L i := rfl
    have ev2 : s_val L (k + 1) i = (L.getD i (0, 0)).1 + (k / s_rep L i + 1) % s_n L i := by unfold s_val; rw [hc']
    have el : L.getD i (0, 0) = (ins.getD i y_i0).2 := by rw [hL]; exact y_rg_at
    have ar := (hi.2.2.1 i (by omega)).2
    rw [← el] at ar
    have ei : ((i + 1 : Nat) : Int) - 1 = (i : Int) := by omega
    have e3 : (i : Int) + -1 = (i : Int) - 1 := by omega
    refine vb_X12_proposed_65 ?_
    rw [ei, if_neg (by simp)]
    simp only [bm_c0_v, bm_c1_v, bm_c2_v, bm_c3_v, bm_c4_v, bm_c5_v, bm_u_some, decide_eq_true_eq, true_and, and_true, and_self, Bool.not_eq_true, Bool.not_eq_true', decide_eq_false_iff_not, if_true, if_false, ite_true, ite_false, eq_self, S.1, S.g22, S.t22, S.n22, S.g23, S.t23, S.n23, kt, kn, bm_w3 hf, bm_wN (show 3 * f + i < 2147483648 by omega), bm_in, Int.toNat_natCast, ar.1, ar.2, d1, q_wI (x := s_val L k i + 1) ⟨by omega, by omega⟩, q_wI (x := (i : Int) - 1) ⟨by omega, by omega⟩, q_wI (x := k + 1) ⟨by omega, by omega⟩, e3]
    refine ⟨by omega, by omega, ?_⟩
    by_cases c : k / s_rep L i % s_n L i = s_n L i - 1
    · have cc := cy.1 c
      rw [if_neg (by omega)]
      refine ⟨by omega, by omega, ?_⟩
      have F2 : q_fr (fun b => b = a) w0 (bm_si w a i (L.getD i (0, 0)).1) := F.si rfl
      refine po_65 hL hf hk h0 hk2 ha w0 hq i _ F2 S (hi.mv (fun j => ⟨q_gi_ne (by omega), rfl, q_gi_ne (by omega), q_gi_ne (by omega)⟩)) kt kn (by omega) (fun ip => ?_) (fun j hj => by rw [q_gi_nk (by omega)]; exact h1 j (by omega)) (fun j hj hj2 => ?_)
      · have rs := s_rep_s (l := L) (i := i - 1) (by omega)
        rw [show i - 1 + 1 = i by omega] at rs
        rw [rs, ← Int.ediv_ediv_of_nonneg (by omega), ← Int.ediv_ediv_of_nonneg (by omega), hc']
        exact cc.2
      · by_cases z : j = i
        · subst z
          rw [q_gi_eq]
          omega
        · rw [q_gi_nk z]
          exact h2 j (by omega) hj2
    · have cc := cy.2 c
      rw [if_pos (by omega), if_neg (by omega)]
      refine ⟨by omega, by omega, hq _ (F.si rfl) (fun j hj => ?_)⟩
      have up : ∀ x : Nat, x + 1 = i → (k + 1) / s_rep L x = k / s_rep L x := fun x hx => by
        have rs := s_rep_s (l := L) (i := x) (by omega)
        rw [hx] at rs
        rw [rs, ← Int.ediv_ediv_of_nonneg (by omega), ← Int.ediv_ediv_of_nonneg (by omega), hc']
        exact cc.2
      have up2 : ∀ x : Nat, x < i → (k + 1) / s_rep L x = k / s_rep L x := fun x hx => by
        by_cases z : x + 1 = i
        · exact up x z
        · have y : x + 1 + 1 = i := by omega
          have rs := s_rep_s (l := L) (i := x) (by omega)
          have rp2 := s_rep_pos lk (x + 1)
          rw [rs, ← Int.ediv_ediv_of_nonneg (by omega), ← Int.ediv_ediv_of_nonneg (by omega), up (x + 1) y]
      by_cases z : j = i
      · subst z
        rw [q_gi_eq]
        omega
      · rw [q_gi_nk z]
        by_cases z2 : j < i
        · rw [h1 j (by omega)]
          unfold s_val
          rw [up2 j z2]
        · exact h2 j (by omega) hj
end PO
