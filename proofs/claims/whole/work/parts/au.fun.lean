/-! ===== what is told of functions, on both sides ===== -/
theorem u_ts_in {pr : y_pr} {f : Nat} (hin : y_inr pr) (hk : ∀ g, g < pr.1.length → y_fk (pr.1.getD g y_f0).2.1) (hf : f < pr.1.length) : ∀ K : Nat, K ≤ pr.2.length → u_in (pr.1.getD f y_f0).2.1 (fun p x y => u_ts pr f p x y K)
  | 0, _ => fun p x y h => by cases h
  | K + 1, hK => fun p x y h => by
    have h' : (u_ts pr f p x y K || (decide ((pr.2.getD K y_t0).2.1 = f) && u_rs p (pr.2.getD K y_t0).2.2 x y)) = true := h
    rw [Bool.or_eq_true, Bool.and_eq_true, decide_eq_true_eq, u_rs_iff] at h'
    rcases h' with h' | ⟨c, r, hr, h'⟩
    · exact u_ts_in hin hk hf K (by omega) p x y h'
    · have ef : y_tF pr K = pr.1.getD f y_f0 := by unfold y_tF; rw [c]
      have hi := hin K (by omega) r hr
      rw [ef] at hi
      have ij := u_ij p
      have a := hi (u_i p) ij.1
      have b := hi (u_j p) ij.2.1
      unfold u_r at h'
      rw [Bool.and_eq_true, u_ri_iff, u_ri_iff] at h'
      have en : ∀ i, s_n (y_rg (pr.1.getD f y_f0).2.1) i = ((y_rg (pr.1.getD f y_f0).2.1).getD i (0, 0)).2 - ((y_rg (pr.1.getD f y_f0).2.1).getD i (0, 0)).1 + 1 := fun i => rfl
      rw [en, en]
      unfold u_lo
      omega
/-- what is told of a function -/
def y_ft (pr : y_pr) (f : Nat) (what : Int) : Int := if what = 0 then ((pr.1.getD f y_f0).2.1.length : Int) else if what = 1 then ((pr.1.getD f y_f0).2.2.1 : Int) else if what = 2 then y_tof pr (f : Int) pr.2.length else if what = 3 then y_cs (y_rg (pr.1.getD f y_f0).2.1) else if what = 4 then y_prs (pr.1.getD f y_f0).2.1 else u_tot (u_M pr f (pr.1.getD f y_f0).2.1 pr.2.length)
section FU
variable {d b t m f : Nat} {B : Int → Int} {pr : y_pr} {w w' : bm_W} {Φ : bm_Rt → bm_W → Prop}
theorem cO.un {w' : bm_W} (hf : q_fr (fun x => t + 118 ≤ x ∧ x ≤ t + 121) w w') : cO t 0 0 w w' := q_gw.of (hf.mo (fun a z => Or.inr (by omega)))
theorem co_funU {x what : Int} (h : cZ b t B pr w) (hin : y_inr pr) (q1 : (0 ≤ x ∧ x < (pr.1.length : Int)) ∧ 0 ≤ what ∧ what ≤ 5 → ∀ w', q_fr (fun x => t + 118 ≤ x ∧ x ≤ t + 121) w w' → cZ b t B pr w' → Φ (.inl (some (bm_i (y_ft pr x.toNat what)))) w') (q0 : ¬ ((0 ≤ x ∧ x < (pr.1.length : Int)) ∧ 0 ≤ what ∧ what ≤ 5) → Φ (.inr "java/lang/IndexOutOfBoundsException") (bm_tw w)) : bm_Call bm_pg (d + 5) y_X11_fun [bm_r (some b), bm_i x, bm_i what] w Φ := by
  have c1 := h.1.1
  have S := h.2.1.1
  refine vc_X11_fun ⟨c1.2.1, h.exF (d := d + 2) (fun c => ?_) (fun c => q0 (fun z => c z.1))⟩
  rw [bm_c3_v]
  obtain ⟨f, rfl⟩ : ∃ f : Nat, x = (f : Int) := ⟨x.toNat, by omega⟩
  have hf : f < pr.1.length := by omega
  have fn := h.2.2.1.2.2 f hf
  have SF := S.2.2.2.1.fn (f : Int)
  have gl := fn.2.1.rgl SF
  rw [Int.toNat_natCast] at q1
  unfold y_ft at q1
  by_cases cw : 0 ≤ what ∧ what ≤ 5
  · have q1 := q1 ⟨c, cw⟩
    rcases (show what = 0 ∨ what = 1 ∨ what = 2 ∨ what = 3 ∨ what = 4 ∨ what = 5 by omega) with rfl | rfl | rfl | rfl | rfl | rfl
    · rw [if_pos rfl] at q1 ⊢
      rw [fn.2.1.1]
      exact ⟨SF.1, q1 w q_fr.rf h⟩
    · rw [if_neg (by decide), if_pos rfl] at q1 ⊢
      rw [fn.2.2.2.1]
      exact ⟨SF.1, q1 w q_fr.rf h⟩
    · rw [if_neg (by decide), if_neg (by decide), if_pos rfl] at q1 ⊢
      simp only [bm_c0_v, bm_c1_v, bm_c2_v, bm_c3_v, bm_c4_v, bm_c5_v, bm_u_some, decide_eq_true_eq, true_and, and_true, and_self, Bool.not_eq_true, Bool.not_eq_true', decide_eq_false_iff_not, if_true, if_false, ite_true, ite_false, eq_self, c1.2.1, c1.2.2.2.2.1, S.2.2.2.1.1]
      refine vc_X3_tablesOf (ct_of4 (d := d + 2) h ?_ pr.2.length 0 (by omega))
      rw [bm_c1_v]
      exact q1 w q_fr.rf h
    · rw [if_neg (by decide), if_neg (by decide), if_neg (by decide), if_pos rfl] at q1 ⊢
      simp only [bm_c0_v, bm_c1_v, bm_c2_v, bm_c3_v, bm_c4_v, bm_c5_v, bm_u_some, decide_eq_true_eq, true_and, and_true, and_self, Bool.not_eq_true, Bool.not_eq_true', decide_eq_false_iff_not, if_true, if_false, ite_true, ite_false, eq_self, SF.1, SF.2.2.1, SF.rg.1, sp_rc (d := d + 1) gl]
      exact q1 w q_fr.rf h
    · rw [if_neg (by decide), if_neg (by decide), if_neg (by decide), if_neg (by decide), if_pos rfl] at q1 ⊢
      simp only [bm_c0_v, bm_c1_v, bm_c2_v, bm_c3_v, bm_c4_v, bm_c5_v, bm_u_some, decide_eq_true_eq, true_and, and_true, and_self, Bool.not_eq_true, Bool.not_eq_true', decide_eq_false_iff_not, if_true, if_false, ite_true, ite_false, eq_self, SF.1, sp_pairCount (d := d + 1) fn.2.1 SF]
      exact q1 w q_fr.rf h
    · rw [if_neg (by decide), if_neg (by decide), if_neg (by decide), if_neg (by decide), if_neg (by decide)] at q1
      rw [if_neg (by decide), if_neg (by decide), if_neg (by decide), if_neg (by decide), if_neg (by decide), if_pos rfl]
      refine ⟨c1.2.1, h.findUntried (d := d) hf hin (fun w2 Z2 M2 _ F2 => ?_)⟩
      rw [bm_c0_v]
      have d1 := Z2.1.1
      simp only [bm_c0_v, bm_c1_v, bm_c2_v, bm_c3_v, bm_c4_v, bm_c5_v, bm_u_some, decide_eq_true_eq, true_and, and_true, and_self, Bool.not_eq_true, Bool.not_eq_true', decide_eq_false_iff_not, if_true, if_false, ite_true, ite_false, eq_self, d1.2.1, d1.2.2.2.2.2.2.2.2.1, d1.2.2.2.2.2.2.2.2.2.2.2.2.1, sp_unpairs (d := d + 1) d1.2.2.2.2.2.2.2.2.2.2.2.2 M2]
      exact q1 w2 F2 Z2
  · rw [if_neg (by omega), if_neg (by omega), if_neg (by omega), if_neg (by omega), if_neg (by omega), if_neg (by omega)]
    exact q0 (fun z => cw z.2)
theorem co_fun {x what : Int} (h : cZ b t B pr w) (hin : y_inr pr) (q1 : (0 ≤ x ∧ x < (pr.1.length : Int)) ∧ 0 ≤ what ∧ what ≤ 5 → ∀ w', cO t 0 0 w w' → cZ b t B pr w' → Φ (.inl (some (bm_i (y_ft pr x.toNat what)))) w') (q0 : ¬ ((0 ≤ x ∧ x < (pr.1.length : Int)) ∧ 0 ≤ what ∧ what ≤ 5) → Φ (.inr "java/lang/IndexOutOfBoundsException") (bm_tw w)) : bm_Call bm_pg (d + 5) y_X11_fun [bm_r (some b), bm_i x, bm_i what] w Φ :=
  co_funU (d := d) h hin (fun a w' F Z => q1 a w' (cO.un F) Z) q0
theorem mO.mk (hf : mMk m w w') : mO m 0 0 w w' := mO.of (A := fun a => a = m + 30 ∨ a = m + 31) hf (fun a z => by omega) (fun k _ _ => by
  have hf' : q_fr (fun a => a = m + 30 ∨ a = m + 31) w w' := hf
  exact hf'.gi (by omega))
theorem mp_19 {T : Nat → Bool} (kt : bm_kt w (m + 30) = 23) (kn : bm_kn w (m + 30) = 6724) (hT : mTr m T w) (hq : Φ (.inl (some (bm_i (u_c T 6724)))) w) : ∀ (rem j : Nat), j + rem = 6724 → bk_X12_pairsTried_19 d Φ (u_c T j) (m + 30) 6724 (j : Int) w
  | 0, j, hj => by
    refine vb_X12_pairsTried_19 ?_
    rw [if_pos (decide_eq_true (by omega))]
    have : j = 6724 := by omega
    subst this
    exact hq
  | rem + 1, j, hj => by
    have r := u_c_rng T j
    have ih := mp_19 kt kn hT hq rem (j + 1) (by omega)
    have e : u_c T (j + 1) = u_c T j + bm_bo (T j) := rfl
    rw [e] at ih
    refine vb_X12_pairsTried_19 ?_
    simp only [bm_c0_v, bm_c1_v, bm_c2_v, bm_c3_v, bm_c4_v, bm_c5_v, bm_u_some, decide_eq_true_eq, true_and, and_true, and_self, Bool.not_eq_true, Bool.not_eq_true', decide_eq_false_iff_not, if_true, if_false, ite_true, ite_false, eq_self, kt, kn, bm_in, Int.toNat_natCast, hT j (by omega), bm_w1 (show j < 2147483647 by omega), q_wI (x := u_c T j + 1) ⟨by omega, by omega⟩, q_wI (x := u_c T j + 0) ⟨by omega, by omega⟩]
    rw [if_neg (by omega)]
    refine ⟨by omega, ?_⟩
    rcases bm_bo_01 (T j) with z | z
    · rw [z] at ih ⊢
      rw [if_pos rfl]
      exact ih
    · rw [z] at ih ⊢
      rw [if_neg (by decide)]
      exact ih
theorem mA.pairsTried (h : mA m B pr w) (hf : f < pr.1.length) (hq : ∀ w', mA m B pr w' → mMk m w w' → Φ (.inl (some (bm_i (u_c (u_TT (pr.1.getD f y_f0).2.1.length (fun p x y => u_ts pr f p x y pr.2.length)) 6724)))) w') : bm_Call bm_pg (d + 4) y_X12_pairsTried [bm_r (some m), bm_i (f : Int)] w Φ := by
  refine vc_X12_pairsTried ⟨h.1.1, h.markAll (d := d) hf (fun w2 A2 T2 F2 => ?_)⟩
  rw [bm_c0_v]
  have S2 := A2.1
  simp only [bm_c0_v, bm_c1_v, bm_c2_v, bm_c3_v, bm_c4_v, bm_c5_v, bm_u_some, decide_eq_true_eq, true_and, and_true, and_self, Bool.not_eq_true, Bool.not_eq_true', decide_eq_false_iff_not, if_true, if_false, ite_true, ite_false, eq_self, S2.1, S2.g41, S2.t41, S2.n41]
  exact ⟨by decide, mp_19 (d := d + 3) S2.t41 S2.n41 T2 (hq w2 A2 F2) 6724 0 rfl⟩
theorem mp_funTold {what : Int} (h : mA m B pr w) (hin : y_inr pr) (hf : f < pr.1.length) (hw : 0 ≤ what ∧ what ≤ 5) (hq : ∀ w', mA m B pr w' → mMk m w w' → Φ (.inl (some (bm_i (y_ft pr f what)))) w') : bm_Call bm_pg (d + 5) y_X12_funTold [bm_r (some m), bm_i (f : Int), bm_i what] w Φ := by
  have S := h.1
  have f6 := h.2.2.1.2.1
  have fn := h.2.2.1.2.2.1 f hf
  have fk := h.2.2.2.2.1 f hf
  have ip := fn.2.1
  have n1 := fn.2.2.1
  have rf : mMk m w w := q_fr.rf
  refine vc_X12_funTold ?_
  unfold y_ft at hq
  rcases (show what = 0 ∨ what = 1 ∨ what = 2 ∨ what = 3 ∨ what = 4 ∨ what = 5 by omega) with rfl | rfl | rfl | rfl | rfl | rfl
  · rw [if_pos rfl] at hq
    rw [if_neg (by decide)]
    simp only [bm_c0_v, bm_c1_v, bm_c2_v, bm_c3_v, bm_c4_v, bm_c5_v, bm_u_some, decide_eq_true_eq, true_and, and_true, and_self, Bool.not_eq_true, Bool.not_eq_true', decide_eq_false_iff_not, if_true, if_false, ite_true, ite_false, eq_self, S.1, S.g20, S.t20, S.n20, bm_in, Int.toNat_natCast, ip.1]
    exact ⟨by omega, hq w h rf⟩
  · rw [if_neg (by decide), if_pos rfl] at hq
    rw [if_pos (by decide), if_neg (by decide)]
    simp only [bm_c0_v, bm_c1_v, bm_c2_v, bm_c3_v, bm_c4_v, bm_c5_v, bm_u_some, decide_eq_true_eq, true_and, and_true, and_self, Bool.not_eq_true, Bool.not_eq_true', decide_eq_false_iff_not, if_true, if_false, ite_true, ite_false, eq_self, S.1, S.g25, S.t25, S.n25, bm_in, Int.toNat_natCast, fn.2.2.2.1]
    exact ⟨by omega, hq w h rf⟩
  · rw [if_neg (by decide), if_neg (by decide), if_pos rfl] at hq
    rw [if_pos (by decide), if_pos (by decide), if_neg (by decide)]
    refine ⟨S.1, vc_X12_tablesOf (mt_of4 (d := d + 3) h ?_ pr.2.length 0 (by omega))⟩
    rw [bm_c1_v]
    exact hq w h rf
  · rw [if_neg (by decide), if_neg (by decide), if_neg (by decide), if_pos rfl] at hq
    rw [if_pos (by decide), if_pos (by decide), if_pos (by decide), if_neg (by decide)]
    simp only [bm_c0_v, bm_c1_v, bm_c2_v, bm_c3_v, bm_c4_v, bm_c5_v, bm_u_some, decide_eq_true_eq, true_and, and_true, and_self, Bool.not_eq_true, Bool.not_eq_true', decide_eq_false_iff_not, if_true, if_false, ite_true, ite_false, eq_self, S.1, mp_all (d := d + 2) S ip (show f < 6 by omega) fk n1]
    exact hq w h rf
  · rw [if_neg (by decide), if_neg (by decide), if_neg (by decide), if_neg (by decide), if_pos rfl] at hq
    rw [if_pos (by decide), if_pos (by decide), if_pos (by decide), if_pos (by decide), if_neg (by decide)]
    simp only [bm_c0_v, bm_c1_v, bm_c2_v, bm_c3_v, bm_c4_v, bm_c5_v, bm_u_some, decide_eq_true_eq, true_and, and_true, and_self, Bool.not_eq_true, Bool.not_eq_true', decide_eq_false_iff_not, if_true, if_false, ite_true, ite_false, eq_self, S.1, mp_pairs (d := d + 2) S ip (show f < 6 by omega) fk n1]
    exact hq w h rf
  · rw [if_neg (by decide), if_neg (by decide), if_neg (by decide), if_neg (by decide), if_neg (by decide)] at hq
    rw [if_pos (by decide), if_pos (by decide), if_pos (by decide), if_pos (by decide), if_pos (by decide)]
    simp only [bm_c0_v, bm_c1_v, bm_c2_v, bm_c3_v, bm_c4_v, bm_c5_v, bm_u_some, decide_eq_true_eq, true_and, and_true, and_self, Bool.not_eq_true, Bool.not_eq_true', decide_eq_false_iff_not, if_true, if_false, ite_true, ite_false, eq_self, S.1, mp_pairs (d := d + 2) S ip (show f < 6 by omega) fk n1]
    refine h.pairsTried (d := d) hf (fun w2 A2 F2 => ?_)
    rw [bm_c1_v]
    have te := u_tot_eq (K := pr.2.length) (pr := pr) (f := f) fk n1 ip.2.1 (u_ts_in hin h.2.2.2.2.1 hf pr.2.length (Nat.le_refl _))
    have r := u_cc_rng (u_M pr f (pr.1.getD f y_f0).2.1 pr.2.length 0) 41
    have r1 := u_cc_rng (u_M pr f (pr.1.getD f y_f0).2.1 pr.2.length 1) 41
    have r2 := u_cc_rng (u_M pr f (pr.1.getD f y_f0).2.1 pr.2.length 2) 41
    have hq := hq w2 A2 F2
    rw [← te, q_wI ⟨by unfold u_tot; omega, by unfold u_tot; omega⟩]
    exact hq
theorem mo_fun {x what : Int} (h : mA m B pr w) (hin : y_inr pr) (q1 : (0 ≤ x ∧ x < (pr.1.length : Int)) ∧ 0 ≤ what ∧ what ≤ 5 → ∀ w', mO m 0 0 w w' → bm_gi w' m 0 = 0 → Φ (.inl (some (bm_i (y_ft pr x.toNat what)))) w') (q0 : ¬ ((0 ≤ x ∧ x < (pr.1.length : Int)) ∧ 0 ≤ what ∧ what ≤ 5) → ∀ v w', mO m 0 0 w w' → bm_gi w' m 0 = 1 → Φ (.inl (some (bm_i v))) w') : bm_Call bm_pg (d + 6) y_X12_fun_ [bm_r (some m), bm_i x, bm_i what] w Φ := by
  have h0 := h.thr (v := 0)
  have z0 : mO m 0 0 w (bm_si w m 0 0) := mO.rf.thr
  refine vc_X12_fun_ ?_
  simp only [bm_c0_v, bm_c1_v, bm_c2_v, bm_c3_v, bm_c4_v, bm_c5_v, bm_u_some, decide_eq_true_eq, true_and, and_true, and_self, Bool.not_eq_true, Bool.not_eq_true', decide_eq_false_iff_not, if_true, if_false, ite_true, ite_false, eq_self, h.1.1, h0.isFun (d := d + 3), h0.1.1, mp_isIn, bm_c1_v, mp_no h0.1.1]
  by_cases c : 0 ≤ x ∧ x < (pr.1.length : Int)
  · rw [if_neg (show ¬ (if 0 ≤ x ∧ x < (pr.1.length : Int) then (1 : Int) else 0) = 0 by rw [if_pos c]; decide)]
    by_cases c2 : 0 ≤ what ∧ what ≤ 5
    · rw [if_neg (show ¬ (if 0 ≤ what ∧ what ≤ 5 then (1 : Int) else 0) = 0 by rw [if_pos c2]; decide)]
      obtain ⟨f, rfl⟩ : ∃ f : Nat, x = (f : Int) := ⟨x.toNat, by omega⟩
      refine mp_funTold (d := d) h0 hin (by omega) c2 (fun w2 A2 F2 => ?_)
      rw [bm_c1_v]
      have F2' : q_fr (fun a => a = m + 30 ∨ a = m + 31) (bm_si w m 0 0) w2 := F2
      have := q1 ⟨c, c2⟩ w2 (z0.tr (mO.mk F2)) ((F2'.gi (by omega)).trans q_gi_eq)
      rw [Int.toNat_natCast] at this
      exact this
    · rw [if_pos (show (if 0 ≤ what ∧ what ≤ 5 then (1 : Int) else 0) = 0 by rw [if_neg c2])]
      exact q0 (fun z => c2 z.2) 0 _ z0.thr q_gi_eq
  · rw [if_pos (show (if 0 ≤ x ∧ x < (pr.1.length : Int) then (1 : Int) else 0) = 0 by rw [if_neg c])]
    exact q0 (fun z => c z.1) 0 _ z0.thr q_gi_eq
end FU
