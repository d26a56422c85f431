/-! ===== the same proposal on both sides ===== -/
theorem bm_bo_not (b : Bool) : bm_bo (!b) = 1 - bm_bo b := by cases b <;> rfl
theorem u_TT_ps {n b : Nat} {U : Nat → Int → Int → Bool} {x y : Int} (hx : -20 ≤ x ∧ x ≤ 20) (hy : -20 ≤ y ∧ y ≤ 20) : u_TT n U (u_ps b x y) = ((if n = 1 then decide (b = 0) else decide (1 ≤ b ∧ (n = 3 ∨ b = 1))) && U (b - 1) x y) := by
  have e1 : u_ps b x y / 1681 = b := by unfold u_ps; omega
  have e2 : ((u_ps b x y % 1681 / 41 : Nat) : Int) - 20 = x := by unfold u_ps; omega
  have e3 : ((u_ps b x y % 41 : Nat) : Int) - 20 = y := by unfold u_ps; omega
  unfold u_TT
  rw [e1, e2, e3]
theorem u_own_eq {pr : y_pr} {f K : Nat} {ins : List y_in} (hk : y_fk ins) (h1 : 1 ≤ ins.length) (h3 : ins.length ≤ 3) {v : Nat → Int} {a b c : Nat} (ha : (a : Int) < s_n (y_rg ins) 0) (hb : (b : Int) < s_n (y_rg ins) 1) (hc : (c : Int) < s_n (y_rg ins) 2) (v0 : v 0 = u_lo ins 0 + a) (v1 : v 1 = u_lo ins 1 + b) (v2 : v 2 = u_lo ins 2 + c) : u_ow ins.length (u_TT ins.length (fun p x y => u_ts pr f p x y K)) v = u_own (u_M pr f ins K) a b c := by
  have r0 := u_lo_rng hk 0
  have r1 := u_lo_rng hk 1
  have r2 := u_lo_rng hk 2
  have lk := y_rg_lk hk
  have z : ∀ i, ins.length ≤ i → u_lo ins i = 0 ∧ s_n (y_rg ins) i = 1 := fun i hi => by
    have e : (y_rg ins).getD i (0, 0) = (0, 0) := by rw [List.getD_eq_getElem?_getD, List.getElem?_eq_none (by rw [y_rg_len]; exact hi)]; rfl
    unfold u_lo
    rw [e]
    exact ⟨rfl, (s_n_rng lk i).2.2 (by rw [y_rg_len]; exact hi)⟩
  have w0 : -20 ≤ v 0 ∧ v 0 ≤ 20 := by omega
  have w1 : -20 ≤ v 1 ∧ v 1 ≤ 20 := by omega
  have w2 : -20 ≤ v 2 ∧ v 2 ≤ 20 := by omega
  have i0 : u_i 0 = 0 := rfl
  have i1 : u_i 1 = 0 := rfl
  have i2 : u_i 2 = 1 := rfl
  have j0 : u_j 0 = 1 := rfl
  have j1 : u_j 1 = 2 := rfl
  have j2 : u_j 2 = 2 := rfl
  have m0 : u_M pr f ins K 0 a b = !u_ts pr f 0 (v 0) (v 1) K := by
    unfold u_M u_0 u_nr
    rw [i0, j0, if_pos (Or.inl rfl), decide_eq_true ha, decide_eq_true hb, ← v0, ← v1]
    rfl
  unfold u_ow u_own
  rw [m0, bm_bo_not]
  by_cases c3 : ins.length = 3
  · have m1 : u_M pr f ins K 1 a c = !u_ts pr f 1 (v 0) (v 2) K := by
      unfold u_M u_0 u_nr
      rw [i1, j1, if_pos (Or.inr c3), decide_eq_true ha, decide_eq_true hc, ← v0, ← v2]
      rfl
    have m2 : u_M pr f ins K 2 b c = !u_ts pr f 2 (v 1) (v 2) K := by
      unfold u_M u_0 u_nr
      rw [i2, j2, if_pos (Or.inr c3), decide_eq_true hb, decide_eq_true hc, ← v1, ← v2]
      rfl
    rw [m1, m2, bm_bo_not, bm_bo_not, if_neg (by omega), if_neg (by omega), u_TT_ps w0 w1, u_TT_ps w0 w2, u_TT_ps w1 w2, c3]
    rfl
  · have m1 : u_M pr f ins K 1 a c = false := by
      unfold u_M u_0 u_nr
      rw [if_neg (by omega), decide_eq_false (by omega), Bool.false_and, Bool.false_and]
    have m2 : u_M pr f ins K 2 b c = false := by
      unfold u_M u_0 u_nr
      rw [if_neg (by omega), decide_eq_false (by omega), Bool.false_and, Bool.false_and]
    rw [m1, m2, bm_bo_f, Int.add_zero, Int.add_zero]
    by_cases c1 : ins.length = 1
    · have z1 := z 1 (by omega)
      have e1 : v 1 = 0 := by omega
      rw [if_pos c1, u_TT_ps w0 (by decide), c1, e1]
      rfl
    · have c2 : ins.length = 2 := by omega
      rw [if_neg c1, if_pos c2, u_TT_ps w0 w1, c2]
      rfl
/-- what is proposed -/
def y_pp (pr : y_pr) (f : Nat) : Int := (u_g1 (u_own (u_M pr f (pr.1.getD f y_f0).2.1 pr.2.length)) (s_n (y_rg (pr.1.getD f y_f0).2.1) 1).toNat (s_n (y_rg (pr.1.getD f y_f0).2.1) 2).toNat (s_n (y_rg (pr.1.getD f y_f0).2.1) 0).toNat).1
theorem y_pp_eq {pr : y_pr} {f : Nat} {ins : List y_in} (hi : (pr.1.getD f y_f0).2.1 = ins) (hk : y_fk ins) (h1 : 1 ≤ ins.length) (h3 : ins.length ≤ 3) : (u_fo (fun k => u_ow ins.length (u_TT ins.length (fun p x y => u_ts pr f p x y pr.2.length)) (s_val (y_rg ins) (k : Int))) 0 (y_cs (y_rg ins)).toNat (-1, 0)).1 = y_pp pr f := by
  unfold y_pp
  rw [hi]
  have lk := y_rg_lk hk
  have n0 := s_n_rng lk 0
  have n1 := s_n_rng lk 1
  have n2 := s_n_rng lk 2
  have l3 : (y_rg ins).length ≤ 3 := by rw [y_rg_len]; exact h3
  obtain ⟨N0, e0⟩ : ∃ N : Nat, s_n (y_rg ins) 0 = (N : Int) := ⟨(s_n (y_rg ins) 0).toNat, by omega⟩
  obtain ⟨N1, e1⟩ : ∃ N : Nat, s_n (y_rg ins) 1 = (N : Int) := ⟨(s_n (y_rg ins) 1).toNat, by omega⟩
  obtain ⟨N2, e2⟩ : ∃ N : Nat, s_n (y_rg ins) 2 = (N : Int) := ⟨(s_n (y_rg ins) 2).toNat, by omega⟩
  have eN : (y_cs (y_rg ins)).toNat = N0 * (N1 * N2) := by
    rw [y_cs_eq l3, e0, e1, e2, ← Int.natCast_mul, ← Int.natCast_mul, Int.toNat_natCast, Nat.mul_assoc]
  rw [e0, e1, e2, eN, Int.toNat_natCast, Int.toNat_natCast, Int.toNat_natCast]
  rw [u_g1_lin (g := fun k => u_ow ins.length (u_TT ins.length (fun p x y => u_ts pr f p x y pr.2.length)) (s_val (y_rg ins) (k : Int))) N0 (fun a b c ha hb hc => ?_)]
  have dg := s_dig (n0 := (N0 : Int)) (n1 := (N1 : Int)) (n2 := (N2 : Int)) (a0 := (a : Int)) (a1 := (b : Int)) (a2 := (c : Int)) ⟨by omega, by omega⟩ ⟨by omega, by omega⟩ ⟨by omega, by omega⟩
  have ek : (((a * N1 + b) * N2 + c : Nat) : Int) = (c : Int) + (N2 : Int) * ((b : Int) + (N1 : Int) * (a : Int)) := by
    rw [Int.natCast_add, Int.natCast_mul, Int.natCast_add, Int.natCast_mul]
    grind
  obtain ⟨-, b3, b4, b5⟩ := dg
  refine u_own_eq hk h1 h3 (by omega) (by omega) (by omega) ?_ ?_ ?_
  · unfold s_val u_lo
    rw [show s_rep (y_rg ins) 0 = s_n (y_rg ins) 2 * s_n (y_rg ins) 1 from rfl, e0, e1, e2, ek, b3, Int.emod_eq_of_lt (by omega) (by omega)]
  · unfold s_val u_lo
    rw [show s_rep (y_rg ins) 1 = s_n (y_rg ins) 2 from rfl, e1, e2, ek, b4]
  · unfold s_val u_lo
    rw [show s_rep (y_rg ins) 2 = 1 from rfl, Int.ediv_one, e2, ek, b5]
theorem y_pp_rng {pr : y_pr} {f : Nat} (hk : y_fk (pr.1.getD f y_f0).2.1) (h1 : 1 ≤ (pr.1.getD f y_f0).2.1.length) (h3 : (pr.1.getD f y_f0).2.1.length ≤ 3) : y_pp pr f = -1 ∨ (0 ≤ y_pp pr f ∧ y_pp pr f < y_cs (y_rg (pr.1.getD f y_f0).2.1)) := by
  rw [← y_pp_eq rfl hk h1 h3]
  rcases u_fo_rng (f := fun k => u_ow (pr.1.getD f y_f0).2.1.length (u_TT (pr.1.getD f y_f0).2.1.length (fun p x y => u_ts pr f p x y pr.2.length)) (s_val (y_rg (pr.1.getD f y_f0).2.1) (k : Int))) (base := 0) (y_cs (y_rg (pr.1.getD f y_f0).2.1)).toNat (-1, 0) with h | ⟨i, h2, h⟩
  · exact Or.inl h
  · rw [h]
    refine Or.inr ⟨by omega, by omega⟩
section PP
variable {d b t m f : Nat} {B : Int → Int} {pr : y_pr} {w w' : bm_W} {Φ : bm_Rt → bm_W → Prop}
theorem cZ.bestRow (h : cZ b t B pr w) (hf : f < pr.1.length) (hM : u_ms (t + 118) (u_M pr f (pr.1.getD f y_f0).2.1 pr.2.length) w) (hw : bm_gi w (t + 118) 3 = s_n (y_rg (pr.1.getD f y_f0).2.1) 0 ∧ bm_gi w (t + 118) 4 = s_n (y_rg (pr.1.getD f y_f0).2.1) 1 ∧ bm_gi w (t + 118) 5 = s_n (y_rg (pr.1.getD f y_f0).2.1) 2) (hq : Φ (.inl (some (bm_i (y_pp pr f)))) w) : bm_Call bm_pg (d + 4) y_X10_bestRow [bm_r (some (t + 118))] w Φ := by
  have SF := h.2.1.1.2.2.2.1.fn (f : Int)
  have gl := (h.2.2.1.2.2 f hf).2.1.rgl SF
  have lk := gl.2.2.1
  have n0 := s_n_rng lk 0
  have n1 := s_n_rng lk 1
  have n2 := s_n_rng lk 2
  have U := h.1.1.2.2.2.2.2.2.2.2.2.2.2.2
  have zz : ∀ p, p ≠ 0 → ∀ x c, (s_n (y_rg (pr.1.getD f y_f0).2.1) 2).toNat ≤ c → u_M pr f (pr.1.getD f y_f0).2.1 pr.2.length p x c = false := fun p hp x c hc => by
    unfold u_M u_0 u_j
    rw [if_neg hp, decide_eq_false (show ¬ (c : Int) < s_n (y_rg (pr.1.getD f y_f0).2.1) 2 by omega), Bool.and_false, Bool.false_and]
  exact sp_bestRow U hM (by rw [hw.1]; omega) (by rw [hw.2.1]; omega) (by rw [hw.2.2]; omega) (by omega) (by omega) (by omega) (zz 1 (by decide)) (zz 2 (by decide)) hq
theorem co_propose {x : Int} (h : cZ b t B pr w) (hin : y_inr pr) (q1 : 0 ≤ x ∧ x < (pr.1.length : Int) → ∀ w', cO t 0 0 w w' → cZ b t B pr w' → Φ (.inl (some (bm_i (y_pp pr x.toNat)))) w') (q0 : ¬ (0 ≤ x ∧ x < (pr.1.length : Int)) → Φ (.inr "java/lang/IndexOutOfBoundsException") (bm_tw w)) : bm_Call bm_pg (d + 5) y_X11_propose [bm_r (some b), bm_i x] w Φ := by
  have c1 := h.1.1
  refine vc_X11_propose ⟨c1.2.1, h.exF (d := d + 2) (fun c => ?_) (fun c => q0 c)⟩
  rw [bm_c3_v]
  obtain ⟨f, rfl⟩ : ∃ f : Nat, x = (f : Int) := ⟨x.toNat, by omega⟩
  have hf : f < pr.1.length := by omega
  rw [Int.toNat_natCast] at q1
  refine ⟨c1.2.1, h.findUntried (d := d) hf hin (fun w2 Z2 M2 W2 F2 => ?_)⟩
  rw [bm_c0_v]
  have d1 := Z2.1.1
  simp only [bm_c0_v, bm_c1_v, bm_c2_v, bm_c3_v, bm_c4_v, bm_c5_v, bm_u_some, decide_eq_true_eq, true_and, and_true, and_self, Bool.not_eq_true, Bool.not_eq_true', decide_eq_false_iff_not, if_true, if_false, ite_true, ite_false, eq_self, d1.2.1, d1.2.2.2.2.2.2.2.2.1, d1.2.2.2.2.2.2.2.2.2.2.2.2.1]
  refine Z2.bestRow (d := d) hf M2 W2 ?_
  rw [bm_c1_v]
  exact q1 c w2 (cO.un F2) Z2
theorem po_27 {a N : Nat} {T : Nat → Bool} (h : mA m B pr w) (hf : f < pr.1.length) (hT : mTr m T w) (ha : m + 31 < a) (hN : N ≤ 100000) (kt : bm_kt w a = 21) (kn : bm_kn w a = 3) (hq : ∀ w', q_fr (fun x => x = a) w w' → Φ (.inl (some (bm_i (u_fo (fun k => u_ow (pr.1.getD f y_f0).2.1.length T (s_val (y_rg (pr.1.getD f y_f0).2.1) (k : Int))) 0 N (-1, 0)).1))) w') : ∀ (rem k : Nat) (w1 : bm_W), k + rem = N → q_fr (fun x => x = a) w w1 → (∀ i, i < (pr.1.getD f y_f0).2.1.length → bm_gi w1 a i = s_val (y_rg (pr.1.getD f y_f0).2.1) (k : Int) i) → bk_X12_proposed_27 (d + 2) Φ m (f : Int) (u_fo (fun k => u_ow (pr.1.getD f y_f0).2.1.length T (s_val (y_rg (pr.1.getD f y_f0).2.1) (k : Int))) 0 k (-1, 0)).1 (u_fo (fun k => u_ow (pr.1.getD f y_f0).2.1.length T (s_val (y_rg (pr.1.getD f y_f0).2.1) (k : Int))) 0 k (-1, 0)).2 a (N : Int) (k : Int) w1
  | 0, k, w1, hk, F, hv => by
    refine vb_X12_proposed_27 ?_
    rw [if_pos (decide_eq_true (by omega))]
    have : k = N := by omega
    subst this
    exact hq w1 F
  | rem + 1, k, w1, hk, F, hv => by
    have S1 : sh_Md m w1 := h.1.fr F
    have fn := h.2.2.1.2.2.1 f hf
    have fk := h.2.2.2.2.1 f hf
    have f6 := h.2.2.1.2.1
    have n1 := fn.2.2.1
    have ip := fn.2.1
    have n3 := ip.2.1
    have lk := y_rg_lk fk
    have ip1 : mip m B f (pr.1.getD f y_f0).2.1 w1 := ip.mv (fun j => ⟨F.gi (by omega), F.gl (by omega), F.gi (by omega), F.gi (by omega)⟩)
    have T1 : mTr m T w1 := fun x hx => (F.gi (by omega)).trans (hT x hx)
    have kt1 : bm_kt w1 a = 21 := by rw [F.kt]; exact kt
    have kn1 : bm_kn w1 a = 3 := by rw [F.kn]; exact kn
    have vr : ∀ i, -20 ≤ s_val (y_rg (pr.1.getD f y_f0).2.1) (k : Int) i ∧ s_val (y_rg (pr.1.getD f y_f0).2.1) (k : Int) i ≤ 20 := fun i => by
      have := s_val_rng (k := (k : Int)) (i := i) lk
      exact ⟨this.1, this.2.1⟩
    have es := u_fo_s (fun k => u_ow (pr.1.getD f y_f0).2.1.length T (s_val (y_rg (pr.1.getD f y_f0).2.1) (k : Int))) 0 k (-1, 0)
    have po := fun (best most : Int) (hb : bk_X12_proposed_27 (d + 2) Φ m (f : Int) best most a (N : Int) ((k + 1 : Nat) : Int) = bk_X12_proposed_27 (d + 2) Φ m (f : Int) (u_fo (fun k => u_ow (pr.1.getD f y_f0).2.1.length T (s_val (y_rg (pr.1.getD f y_f0).2.1) (k : Int))) 0 (k + 1) (-1, 0)).1 (u_fo (fun k => u_ow (pr.1.getD f y_f0).2.1.length T (s_val (y_rg (pr.1.getD f y_f0).2.1) (k : Int))) 0 (k + 1) (-1, 0)).2 a (N : Int) ((k + 1 : Nat) : Int)) => po_65 (d := d + 2) (Φ := Φ) (best := best) (most := most) (all := (N : Int)) (k := (k : Int)) (a := a) rfl (show f < 6 by omega) fk (by omega) (by omega) (Or.inr ha) w1 (fun w2 F2 g2 => by
      rw [show (k : Int) + 1 = ((k + 1 : Nat) : Int) by omega] at g2 ⊢
      rw [hb]
      exact po_27 h hf hT ha hN kt kn hq rem (k + 1) w2 (by omega) (F.tr F2) g2) (pr.1.getD f y_f0).2.1.length w1 q_fr.rf S1 ip1 kt1 kn1 (Nat.le_refl _) (fun _ => by
        have e := s_rep_e lk (by rw [y_rg_len]; exact n1) (by rw [y_rg_len]; exact n3)
        rw [y_rg_len] at e
        rw [e, Int.ediv_one, Int.ediv_one]) hv (fun j hj hj2 => by omega)
    refine vb_X12_proposed_27 ?_
    rw [if_neg (fun y => by have := of_decide_eq_true y; omega)]
    simp only [bm_c0_v, bm_c1_v, bm_c2_v, bm_c3_v, bm_c4_v, bm_c5_v, bm_u_some, decide_eq_true_eq, true_and, and_true, and_self, Bool.not_eq_true, Bool.not_eq_true', decide_eq_false_iff_not, if_true, if_false, ite_true, ite_false, eq_self, S1.1, mp_untriedRow (d := d) ⟨S1, ip1.1, kt1, kn1, hv⟩ (show f < 6 by omega) n1 n3 vr T1, S1.1, S1.g20, S1.t20, S1.n20, bm_in, Int.toNat_natCast, ip1.1, q_wI (x := ((pr.1.getD f y_f0).2.1.length : Int) - 1) ⟨by omega, by omega⟩]
    by_cases c : (u_fo (fun k => u_ow (pr.1.getD f y_f0).2.1.length T (s_val (y_rg (pr.1.getD f y_f0).2.1) (k : Int))) 0 k (-1, 0)).2 < u_ow (pr.1.getD f y_f0).2.1.length T (s_val (y_rg (pr.1.getD f y_f0).2.1) (k : Int))
    · rw [if_pos c] at es
      rw [if_neg (by omega)]
      refine ⟨by omega, po _ _ (by rw [es, Nat.zero_add])⟩
    · rw [if_neg c] at es
      rw [if_pos (by omega)]
      exact ⟨by omega, po _ _ (by rw [es])⟩
theorem mA.proposed (h : mA m B pr w) (hf : f < pr.1.length) (hq : ∀ w', mA m B pr w' → q_gw (fun x => x = m + 30 ∨ x = m + 31) (fun _ => False) 1 3 w w' → Φ (.inl (some (bm_i (y_pp pr f)))) w') : bm_Call bm_pg (d + 4) y_X12_proposed [bm_r (some m), bm_i (f : Int)] w Φ := by
  refine vc_X12_proposed ⟨h.1.1, h.markAll (d := d) hf (fun w1 A1 T1 F1 => ?_)⟩
  rw [bm_c0_v]
  have F1' : q_fr (fun a => a = m + 30 ∨ a = m + 31) w w1 := F1
  have fn := A1.2.2.1.2.2.1 f hf
  have fk := A1.2.2.2.2.1 f hf
  have f6 := A1.2.2.1.2.1
  have n1 := fn.2.2.1
  have ip := fn.2.1
  have n3 := ip.2.1
  have cs := y_cs_3 (y_rg_lk fk) (by rw [y_rg_len]; exact n3)
  refine ⟨A1.1.1, mm_rowOf (d := d + 1) A1.1 A1.2.1 ip (by omega) fk n1 (Int.le_refl _) (by decide) (fun w2 G kt kn sz vals => ?_)⟩
  rw [bm_c3_v]
  have A2 : mA m B pr w2 := A1.far G (fun a _ _ z => z) (fun z => z)
  have fn2 := A2.2.2.1.2.2.1 f hf
  have s1 := A1.2.1
  have T2 : mTr m (u_TT (pr.1.getD f y_f0).2.1.length (fun p x y => u_ts pr f p x y pr.2.length)) w2 := fun x hx => (G.gi (by omega) (fun z => z)).trans (T1 x hx)
  refine ⟨A2.1.1, ?_⟩
  rw [mp_all (d := d + 1) A2.1 fn2.2.1 (show f < 6 by omega) fk n1, bm_c1_v]
  have p := po_27 (d := d + 1) (Φ := Φ) (N := (y_cs (y_rg (pr.1.getD f y_f0).2.1)).toNat) A2 hf T2 s1 (by omega) kt kn (fun w3 F3 => ?_) (y_cs (y_rg (pr.1.getD f y_f0).2.1)).toNat 0 w2 (by omega) q_fr.rf (fun i hi => by have := vals i (by omega); rw [if_pos hi] at this; exact this)
  · rw [Int.toNat_of_nonneg (by omega)] at p
    exact p
  · rw [y_pp_eq rfl fk n1 n3]
    have s2 : bm_sz w = bm_sz w1 := F1'.sz.symm
    refine hq w3 (A2.far (q_gw.of (R := fun _ => False) F3) (fun x _ _ z => by omega) (fun z => z)) ?_
    have G2 : q_gw (fun x => x = m + 30 ∨ x = m + 31) (fun _ => False) 1 3 w w2 := ((q_gw.of F1').tr (G.mo (fun _ z => z.elim) (fun _ z => z) (Nat.le_refl _) (Nat.le_refl _))).mo (fun _ z => z) (fun _ z => z) (by omega) (by omega)
    exact G2.far F3 (by omega)
theorem mo_propose {x : Int} (h : mA m B pr w) (q1 : 0 ≤ x ∧ x < (pr.1.length : Int) → ∀ w', mO m 1 3 w w' → bm_gi w' m 0 = 0 → Φ (.inl (some (bm_i (y_pp pr x.toNat)))) w') (q0 : ¬ (0 ≤ x ∧ x < (pr.1.length : Int)) → ∀ v w', mO m 1 3 w w' → bm_gi w' m 0 = 1 → Φ (.inl (some (bm_i v))) w') : bm_Call bm_pg (d + 5) y_X12_propose [bm_r (some m), bm_i x] w Φ := by
  have h0 := h.thr (v := 0)
  have z0 : mO m 0 0 w (bm_si w m 0 0) := mO.rf.thr
  have zz : ∀ w', mO m 0 0 w w' → mO m 1 3 w w' := fun w' z => ⟨z.1.mo (fun _ y => y) (fun _ y => y) (by omega) (by omega), z.2⟩
  refine vc_X12_propose ?_
  simp only [bm_c0_v, bm_c1_v, bm_c2_v, bm_c3_v, bm_c4_v, bm_c5_v, bm_u_some, decide_eq_true_eq, true_and, and_true, and_self, Bool.not_eq_true, Bool.not_eq_true', decide_eq_false_iff_not, if_true, if_false, ite_true, ite_false, eq_self, h.1.1, h0.isFun (d := d + 2), h0.1.1, bm_c1_v, mp_no h0.1.1]
  have hs := h0.2.1
  by_cases c : 0 ≤ x ∧ x < (pr.1.length : Int)
  · rw [if_neg (show ¬ (if 0 ≤ x ∧ x < (pr.1.length : Int) then (1 : Int) else 0) = 0 by rw [if_pos c]; decide)]
    obtain ⟨f, rfl⟩ : ∃ f : Nat, x = (f : Int) := ⟨x.toNat, by omega⟩
    refine h0.proposed (d := d) (by omega) (fun w2 A2 G2 => ?_)
    rw [bm_c1_v]
    have := q1 c w2 ⟨(z0.1.tr (G2.mo (fun a z => by omega) (fun _ z => z) (Nat.le_refl _) (Nat.le_refl _))).mo (fun _ z => z) (fun _ z => z) (by omega) (by omega), fun k a b => (G2.gi (show m < bm_sz (bm_si w m 0 0) by omega) (by omega)).trans (z0.2 k a b)⟩ ((G2.gi (show m < bm_sz (bm_si w m 0 0) by omega) (by omega)).trans q_gi_eq)
    rw [Int.toNat_natCast] at this
    exact this
  · rw [if_pos (show (if 0 ≤ x ∧ x < (pr.1.length : Int) then (1 : Int) else 0) = 0 by rw [if_neg c])]
    exact q0 c 0 _ (zz _ z0.thr) q_gi_eq
end PP
