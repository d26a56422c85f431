/-! ===== the same proposal on both sides ===== -/
theorem bm_bo_not (b : Bool) : bm_bo (!b) = 1 - bm_bo b := by cases b <;> rfl
theorem u_TT_ps {n b : Nat} {U : Nat → Int → Int → Bool} {x y : Int} (hx : -20 ≤ x ∧ x ≤ 20) (hy : -20 ≤ y ∧ y ≤ 20) : u_TT n U (u_ps b x y) = ((if n = 1 then decide (b = 0) else decide (1 ≤ b ∧ (n = 3 ∨ b = 1))) && U (b - 1) x y) := by
  have e1 : u_ps b x y / 1681 = b := by unfold u_ps; omega
  have e2 : ((u_ps b x y % 1681 / 41 : Nat) : Int) - 20 = x := by unfold u_ps; omega
  have e3 : ((u_ps b x y % 41 : Nat) : Int) - 20 = y := by unfold u_ps; omega
  unfold u_TT
  rw [e1, e2, e3]
theorem u_own_eq {pr : y_pr} {f K : Nat} {ins : List y_in} (hk : y_fk ins) (h1 : 1 ≤ ins.length) (h3 : ins.length ≤ 3) {v : Nat → Int} {a b c : Nat} (ha : (a : Int) < s_n (y_rg ins) 0) (hb : (b : Int) < s_n (y_rg ins) 1) (hc : (c : Int) < s_n (y_rg ins) 2) (v0 : v 0 = u_lo ins 0 + a) (v1 : v 1 = u_lo ins 1 + b) (v2 : v 2 = u_lo ins 2 + c) : u_ow ins.length (u_TT ins.length (fun p x y => u_ts pr f p x y K)) v = u_own (u_M pr f ins K) a b c := by
  have r0 := u_lo_rng hk 0
  have r1 := u_lo_rng hk 1
  have r2 := u_lo_rng hk 2
  have lk := y_rg_lk hk
  have z : ∀ i, ins.length ≤ i → u_lo ins i = 0 ∧ s_n (y_rg ins) i = 1 := fun i hi => by
    have e : (y_rg ins).getD i (0, 0) = (0, 0) := by rw [List.getD_eq_getElem?_getD, List.getElem?_eq_none (by rw [y_rg_len]; exact hi)]; rfl
    unfold u_lo
    rw [e]
    exact ⟨rfl, (s_n_rng lk i).2.2 (by rw [y_rg_len]; exact hi)⟩
  have w0 : -20 ≤ v 0 ∧ v 0 ≤ 20 := by omega
  have w1 : -20 ≤ v 1 ∧ v 1 ≤ 20 := by omega
  have w2 : -20 ≤ v 2 ∧ v 2 ≤ 20 := by omega
  have i0 : u_i 0 = 0 := rfl
  have i1 : u_i 1 = 0 := rfl
  have i2 : u_i 2 = 1 := rfl
  have j0 : u_j 0 = 1 := rfl
  have j1 : u_j 1 = 2 := rfl
  have j2 : u_j 2 = 2 := rfl
  have m0 : u_M pr f ins K 0 a b = !u_ts pr f 0 (v 0) (v 1) K := by
    unfold u_M u_0 u_nr
    rw [i0, j0, if_pos (Or.inl rfl), decide_eq_true ha, decide_eq_true hb, ← v0, ← v1]
    rfl
  unfold u_ow u_own
  rw [m0, bm_bo_not]
  by_cases c3 : ins.length = 3
  · have m1 : u_M pr f ins K 1 a c = !u_ts pr f 1 (v 0) (v 2) K := by
      unfold u_M u_0 u_nr
      rw [i1, j1, if_pos (Or.inr c3), decide_eq_true ha, decide_eq_true hc, ← v0, ← v2]
      rfl
    have m2 : u_M pr f ins K 2 b c = !u_ts pr f 2 (v 1) (v 2) K := by
      unfold u_M u_0 u_nr
      rw [i2, j2, if_pos (Or.inr c3), decide_eq_true hb, decide_eq_true hc, ← v1, ← v2]
      rfl
    rw [m1, m2, bm_bo_not, bm_bo_not, if_neg (by omega), if_neg (by omega), u_TT_ps w0 w1, u_TT_ps w0 w2, u_TT_ps w1 w2, c3]
    rfl
  · have m1 : u_M pr f ins K 1 a c = false := by
      unfold u_M u_0 u_nr
      rw [if_neg (by omega), decide_eq_false (by omega), Bool.false_and, Bool.false_and]
    have m2 : u_M pr f ins K 2 b c = false := by
      unfold u_M u_0 u_nr
      rw [if_neg (by omega), decide_eq_false (by omega), Bool.false_and, Bool.false_and]
    rw [m1, m2, bm_bo_f, Int.add_zero, Int.add_zero]
    by_cases c1 : ins.length = 1
    · have z1 := z 1 (by omega)
      have e1 : v 1 = 0 := by omega
      rw [if_pos c1, u_TT_ps w0 (by decide), c1, e1]
      rfl
    · have c2 : ins.length = 2 := by omega
      rw [if_neg c1, if_pos c2, u_TT_ps w0 w1, c2]
      rfl
/-- what is proposed -/
def y_pp (pr : y_pr) (f : Nat) : Int := (u_g1 (u_own (u_M pr f (pr.1.getD f y_f0).2.1 pr.2.length)) (s_n (y_rg (pr.1.getD f y_f0).2.1) 1).toNat (s_n (y_rg (pr.1.getD f y_f0).2.1) 2).toNat (s_n (y_rg (pr.1.getD f y_f0).2.1) 0).toNat).1
theorem y_pp_eq {pr : y_pr} {f : Nat} {ins : List y_in} (hi : (pr.1.getD f y_f0).2.1 = ins) (hk : y_fk ins) (h1 : 1 ≤ ins.length) (h3 : ins.length ≤ 3) : (u_fo (fun k => u_ow ins.length (u_TT ins.length (fun p x y => u_ts pr f p x y pr.2.length)) (s_val (y_rg ins) (k : Int))) 0 (y_cs (y_rg ins)).toNat (-1, 0)).1 = y_pp pr f := by
  unfold y_pp
  rw [hi]
  have lk := y_rg_lk hk
  have n0 := s_n_rng lk 0
  have n1 := s_n_rng lk 1
  have n2 := s_n_rng lk 2
  have l3 : (y_rg ins).length ≤ 3 := by rw [y_rg_len]; exact h3
  obtain ⟨N0, e0⟩ : ∃ N : Nat, s_n (y_rg ins) 0 = (N : Int) := ⟨(s_n (y_rg ins) 0).toNat, by omega⟩
  obtain ⟨N1, e1⟩ : ∃ N : Nat, s_n (y_rg ins) 1 = (N : Int) := ⟨(s_n (y_rg ins) 1).toNat, by omega⟩
  obtain ⟨N2, e2⟩ : ∃ N : Nat, s_n (y_rg ins) 2 = (N : Int) := ⟨(s_n (y_rg ins) 2).toNat, by omega⟩
  have eN : (y_cs (y_rg ins)).toNat = N0 * (N1 * N2) := by
    rw [y_cs_eq l3, e0, e1, e2, ← Int.natCast_mul, ← Int.natCast_mul, Int.toNat_natCast, Nat.mul_assoc]
  rw [e0, e1, e2, eN, Int.toNat_natCast, Int.toNat_natCast, Int.toNat_natCast]
  rw [u_g1_lin (g := fun k => u_ow ins.length (u_TT ins.length (fun p x y => u_ts pr f p x y pr.2.length)) (s_val (y_rg ins) (k : Int))) N0 (fun a b c ha hb hc => ?_)]
  have dg := s_dig (n0 := (N0 : Int)) (n1 := (N1 : Int)) (n2 := (N2 : Int)) (a0 := (a : Int)) (a1 := (b : Int)) (a2 := (c : Int)) ⟨by omega, by omega⟩ ⟨by omega, by omega⟩ ⟨by omega, by omega⟩
  have ek : (((a * N1 + b) * N2 + c : Nat) : Int) = (c : Int) + (N2 : Int) * ((b : Int) + (N1 : Int) * (a : Int)) := by
    rw [Int.natCast_add, Int.natCast_mul, Int.natCast_add, Int.natCast_mul]
    grind
  obtain ⟨-, b3, b4, b5⟩ := dg
  refine u_own_eq hk h1 h3 (by omega) (by omega) (by omega) ?_ ?_ ?_
  · unfold s_val u_lo
    rw [show s_rep (y_rg ins) 0 = s_n (y_rg ins) 2 * s_n (y_rg ins) 1 from rfl, e0, e1, e2, ek, b3, Int.emod_eq_of_lt (by omega) (by omega)]
  · unfold s_val u_lo
    rw [show s_rep (y_rg ins) 1 = s_n (y_rg ins) 2 from rfl, e1, e2, ek, b4]
  · unfold s_val u_lo
    rw [show s_rep (y_rg ins) 2 = 1 from rfl, Int.ediv_one, e2, ek, b5]
theorem y_pp_rng {pr : y_pr} {f : Nat} (hk : y_fk (pr.1.getD f y_f0).2.1) (h1 : 1 ≤ (pr.1.getD f y_f0).2.1.length) (h3 : (pr.1.getD f y_f0).2.1.length ≤ 3) : y_pp pr f = -1 ∨ (0 ≤ y_pp pr f ∧ y_pp pr f < y_cs (y_rg (pr.1.getD f y_f0).2.1)) := by
  rw [← y_pp_eq rfl hk h1 h3]
  rcases u_fo_rng (f := fun k => u_ow (pr.1.getD f y_f0).2.1.length (u_TT (pr.1.getD f y_f0).2.1.length (fun p x y => u_ts pr f p x y pr.2.length)) (s_val (y_rg (pr.1.getD f y_f0).2.1) (k : Int))) (base := 0) (y_cs (y_rg (pr.1.getD f y_f0).2.1)).toNat (-1, 0) with h | ⟨i, h2, h⟩
  · exact Or.inl h
  · rw [h]
    refine Or.inr ⟨by omega, by omega⟩
section PP
variable {d b t m f : Nat} {B : Int → Int} {pr : y_pr} {w w' : bm_W} {Φ : bm_Rt → bm_W → Prop}
theorem cZ.bestRow (h : cZ b t B pr w) (hf : f < pr.1.length) (hM : u_ms (t + 118) (u_M pr f (pr.1.getD f y_f0).2.1 pr.2.length) w) (hw : bm_gi w (t + 118) 3 = s_n (y_rg (pr.1.getD f y_f0).2.1) 0 ∧ bm_gi w (t + 118) 4 = s_n (y_rg (pr.1.getD f y_f0).2.1) 1 ∧ bm_gi w (t + 118) 5 = s_n (y_rg (pr.1.getD f y_f0).2.1) 2) (hq : Φ (.inl (some (bm_i (y_pp pr f)))) w) : bm_Call bm_pg (d + 4) y_X10_bestRow [bm_r (some (t + 118))] w Φ := by
  have SF := h.2.1.1.2.2.2.1.fn (f : Int)
  have gl := (h.2.2.1.2.2 f hf).2.1.rgl SF
  have lk := gl.2.2.1
  have n0 := s_n_rng lk 0
  have n1 := s_n_rng lk 1
  have n2 := s_n_rng lk 2
  have U := h.1.1.2.2.2.2.2.2.2.2.2.2.2.2
  have zz : ∀ p, p ≠ 0 → ∀ x c, (s_n (y_rg (pr.1.getD f y_f0).2.1) 2).toNat ≤ c → u_M pr f (pr.1.getD f y_f0).2.1 pr.2.length p x c = false := fun p hp x c hc => by
    unfold u_M u_0 u_j
    rw [if_neg hp, decide_eq_false (show ¬ (c : Int) < s_n (y_rg (pr.1.getD f y_f0).2.1) 2 by omega), Bool.and_false, Bool.false_and]
  exact sp_bestRow U hM (by rw [hw.1]; omega) (by rw [hw.2.1]; omega) (by rw [hw.2.2]; omega) (by omega) (by omega) (by omega) (zz 1 (by decide)) (zz 2 (by decide)) hq
theorem co_propose {x : Int} (h : cZ b t B pr w) (hin : y_inr pr) (q1 : 0 ≤ x ∧ x < (pr.1.length : Int) → ∀ w', cO t 0 0 w w' → cZ b t B pr w' → Φ (.inl (some (bm_i (y_pp pr x.toNat)))) w') (q0 : ¬ (0 ≤ x ∧ x < (pr.1.length : Int)) → Φ (.inr "java/lang/IndexOutOfBoundsException") (bm_tw w)) : bm_Call bm_pg (d + 5) y_X11_propose [bm_r (some b), bm_i x] w Φ := by
  have c1 := h.1.1
  refine vc_X11_propose ⟨c1.2.1, h.exF (d := d + 2) (fun c => ?_) (fun c => q0 c)⟩
  rw [bm_c3_v]
  obtain ⟨f, rfl⟩ : ∃ f : Nat, x = (f : Int) := ⟨x.toNat, by omega⟩
  have hf : f < pr.1.length := by omega
  rw [Int.toNat_natCast] at q1
  refine ⟨c1.2.1, h.findUntried (d := d) hf hin (fun w2 Z2 M2 W2 F2 => ?_)⟩
  rw [bm_c0_v]
  have d1 := Z2.1.1
  simp only [bm_c0_v, bm_c1_v, bm_c2_v, bm_c3_v, bm_c4_v, bm_c5_v, bm_u_some, decide_eq_true_eq, true_and, and_true, and_self, Bool.not_eq_true, Bool.not_eq_true', decide_eq_false_iff_not, if_true, if_false, ite_true, ite_false, eq_self, d1.2.1, d1.2.2.2.2.2.2.2.2.1, d1.2.2.2.2.2.2.2.2.2.2.2.2.1]
  refine Z2.bestRow (d := d) hf M2 W2 ?_
  rw [bm_c1_v]
  exact q1 c w2 (cO.un F2) Z2
end PP
