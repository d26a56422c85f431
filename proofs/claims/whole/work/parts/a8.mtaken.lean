/-! ===== branches that are taken, in the model ===== -/
theorem mQ.tr {m : Nat} {t1 t2 : List (Int × Bool)} {w w1 w2 : bm_W} (h : mQ m t1 w w1) (h2 : mQ m t2 w1 w2) : mQ m (t1 ++ t2) w w2 := by
  obtain ⟨a1, a2, a3, a4⟩ := h
  obtain ⟨b1, b2, b3, b4⟩ := h2
  have h37 : bm_gi w1 m 37 = bm_gi w m 37 := a2 37 (by decide)
  refine ⟨a1.tr b1, fun k hk => (b2 k hk).trans (a2 k hk), fun j => ?_, fun j => ?_⟩
  · rw [b3 j, h37, show bm_gi w1 (m + 28) = q_bump (bm_gi w m 37) true t1 (bm_gi w (m + 28)) from funext a3, q_bump_app]
  · rw [b4 j, h37, show bm_gi w1 (m + 29) = q_bump (bm_gi w m 37) false t1 (bm_gi w (m + 29)) from funext a4, q_bump_app]
theorem mQ.of31 {m : Nat} {w w1 : bm_W} (h : q_fr (fun b => b = m + 31) w w1) : mQ m [] w w1 := ⟨h.mo (fun a z => Or.inr (Or.inr (Or.inr z))), fun k _ => h.gi (by omega), fun j => h.gi (by omega), fun j => h.gi (by omega)⟩
theorem mQ.md {m : Nat} {tr : List (Int × Bool)} {w w1 : bm_W} (h : md_Q m tr w w1) : mQ m tr w w1 := ⟨h.1.mo (fun a z => by omega), h.2.1, h.2.2.2.1, h.2.2.2.2⟩
section MB
variable {d m k : Nat} {B : Int → Int} {pr : y_pr} {w : bm_W} {Φ : bm_Rt → bm_W → Prop}
/-- a case of a table is run -/
theorem mm_caserun {x : Int} {K : Int → bm_W → Prop} (h : mA m B pr w) (hk : k < pr.2.length) (h0 : 0 ≤ x) (h1 : x < y_ct (pr.2.getD k y_t0).2.2) (hq : ∀ v w', mQ m (s_tc (y_tF pr k).2.2.2.2 (pr.2.getD k y_t0).2.2 x) w w' → K v w') : bm_Call bm_pg (d + 1201) y_X12_caseInputs [bm_r (some m), bm_i (k : Int), bm_i x] w (fun r1 w1 => bm_c3 (fun x1 => bm_kt w1 m = 12 ∧ bm_Call bm_pg (d + 1201) y_X12_run [bm_r (some m), bm_i (((pr.2.getD k y_t0).2.1 : Nat) : Int), bm_r (some x1), bm_i (-1)] w1 (fun r2 w2 => bm_c2 (fun x2 => K x2 w2) (fun E => Φ (.inr E) w2) r2)) (fun E => Φ (.inr E) w1) r1) := by
  obtain ⟨T, hF, hl, hfk⟩ := h.tab hk
  have n3 := T.2.2.2.2.2.2.1
  refine mm_caseInputs (d := d + 1199) T h0 h1 (fun w1 F1 g1 => ?_)
  rw [bm_c3_v]
  have Q1 := mQ.of31 F1
  have A1 := h.mQ Q1
  have S1 := A1.1
  obtain ⟨-, -, -, -, -, -, -, nn, -, hm'⟩ := (A1.tab hk).2.1
  have hm := hm' w1 (fun _ _ _ _ _ => rfl) (fun _ _ => ⟨rfl, rfl⟩) S1
  have f6 := T.2.2.2.1
  have eD : (y_tF pr k).2.2.2.2 (q_abc (bm_gi w1 (m + 31) 0) (bm_gi w1 (m + 31) 1) (bm_gi w1 (m + 31) 2)) (-1) = (y_tF pr k).2.2.2.2 (s_in (pr.2.getD k y_t0).2.2 x) (-1) := hl _ _ (-1) (fun i hi => by
    rcases (show i = 0 ∨ i = 1 ∨ i = 2 by omega) with rfl | rfl | rfl
    · exact g1 0 hi
    · exact g1 1 hi
    · exact g1 2 hi)
  refine ⟨S1.1, mp_run (w0 := w1) (d := d + 1200) S1 f6 rfl hm (by omega) q_fr.rf ⟨S1.t42, by rw [S1.n42]; decide⟩ (by omega) (fun v hv w2 Q2 h36 => ?_) (fun hv w2 Q2 h36 => ?_)⟩
  · rw [eD] at Q2
    rw [bm_c2_v]
    exact hq v w2 (Q1.tr (mQ.md Q2))
  · rw [eD] at Q2
    rw [bm_c2_v]
    exact hq 0 w2 (Q1.tr (mQ.md Q2))
theorem cb_53 (hk : k < pr.2.length) (pre : List (Int × Bool)) (w0 : bm_W) (h37 : bm_gi w0 m 37 = 1) (hq : ∀ w2, mQ m (pre ++ s_tr (y_tF pr k).2.2.2.2 (pr.2.getD k y_t0).2.2 (y_ct (pr.2.getD k y_t0).2.2).toNat) w0 w2 → mA m B pr w2 → bk_X12_countBranches_37 (d + 1201) Φ m ((k + 1 : Nat) : Int) w2) : ∀ (rem j : Nat) (w : bm_W), (j : Int) + rem = y_ct (pr.2.getD k y_t0).2.2 → mA m B pr w → mQ m (pre ++ s_tr (y_tF pr k).2.2.2.2 (pr.2.getD k y_t0).2.2 j) w0 w → bk_X12_countBranches_53 (d + 1201) Φ m (k : Int) (y_ct (pr.2.getD k y_t0).2.2) (j : Int) w
  | 0, j, w, hj, hA, hQ => by
    have k6 := (hA.tab hk).1.2.1
    refine vb_X12_countBranches_53 ?_
    rw [if_pos (decide_eq_true (by omega)), bm_w1 (show k < 2147483647 by omega)]
    have : (y_ct (pr.2.getD k y_t0).2.2).toNat = j := by omega
    rw [this] at hq
    exact hq w hQ hA
  | rem + 1, j, w, hj, hA, hQ => by
    have T := (hA.tab hk).1
    have k6 := T.2.1
    have ct := T.2.2.2.2.2.2.2.2.2.1
    have S := hA.1
    refine vb_X12_countBranches_53 ?_
    rw [if_neg (fun y => by have := of_decide_eq_true y; omega)]
    simp only [bm_c0_v, bm_c1_v, bm_c2_v, bm_c3_v, bm_c4_v, bm_c5_v, bm_u_some, decide_eq_true_eq, true_and, and_true, and_self, Bool.not_eq_true, Bool.not_eq_true', decide_eq_false_iff_not, if_true, if_false, ite_true, ite_false, eq_self, S.1, S.1, S.g30, S.t30, S.n30, bm_in, Int.toNat_natCast, T.2.2.1]
    refine ⟨by omega, mm_caserun (K := fun _ w2 => bk_X12_countBranches_53 (d + 1201) Φ m (k : Int) (y_ct (pr.2.getD k y_t0).2.2) (bm_w ((j : Int) + 1)) w2) hA hk (by omega) (by omega) (fun v w2 Q2 => ?_)⟩
    rw [bm_w1 (show j < 2147483647 by omega)]
    refine cb_53 hk pre w0 h37 hq rem (j + 1) w2 (by omega) (hA.mQ Q2) ?_
    have := hQ.tr Q2
    rw [List.append_assoc] at this
    exact this
theorem cb_37 (w0 : bm_W) (h37 : bm_gi w0 m 37 = 1) (hq : ∀ w2, mQ m (s_trs pr pr.2.length) w0 w2 → mA m B pr w2 → Φ (.inl none) (bm_si w2 m 37 0)) : ∀ (rem k : Nat) (w : bm_W), k + rem = pr.2.length → mA m B pr w → mQ m (s_trs pr k) w0 w → bk_X12_countBranches_37 (d + 1201) Φ m (k : Int) w
  | 0, k, w, hk, hA, hQ => by
    have l := hA.2.2.2.1.1
    refine vb_X12_countBranches_37 ?_
    simp only [bm_c0_v, bm_c1_v, bm_c2_v, bm_c3_v, bm_c4_v, bm_c5_v, bm_u_some, decide_eq_true_eq, true_and, and_true, and_self, Bool.not_eq_true, Bool.not_eq_true', decide_eq_false_iff_not, if_true, if_false, ite_true, ite_false, eq_self, hA.1.1, l]
    rw [if_pos (by omega)]
    have : k = pr.2.length := by omega
    subst this
    exact ⟨Or.inl trivial, hq w hQ hA⟩
  | rem + 1, k, w, hk, hA, hQ => by
    have l := hA.2.2.2.1.1
    have T := (hA.tab (k := k) (by omega)).1
    have nn : 0 ≤ y_ct (pr.2.getD k y_t0).2.2 := y_ct_nn _ (fun i hi => (y_cs_3 (T.lk hi).2.2 (by rw [(T.lk hi).2.1]; exact T.2.2.2.2.2.2.1)).1)
    refine vb_X12_countBranches_37 ?_
    simp only [hA.1.1, true_and, l]
    rw [if_neg (by simp; omega), T.cases (d := d + 1199), bm_c1_v]
    refine cb_53 (by omega) (s_trs pr k) w0 h37 (fun w2 Q2 A2 => ?_) (y_ct (pr.2.getD k y_t0).2.2).toNat 0 w (by omega) hA (by rw [show s_tr (y_tF pr k).2.2.2.2 (pr.2.getD k y_t0).2.2 0 = [] from rfl, List.append_nil]; exact hQ)
    exact cb_37 w0 h37 hq rem (k + 1) w2 (by omega) A2 Q2
/-- counters are cleared -/
theorem cb_2 {nI : Nat} (hn : nI ≤ 54) (w0 : bm_W) (hq : ∀ w2, q_fr (fun a => a = m + 28 ∨ a = m + 29) w0 w2 → (∀ j, j < nI → bm_gi w2 (m + 28) j = 0 ∧ bm_gi w2 (m + 29) j = 0) → bk_X12_countBranches_37 d Φ m 0 (bm_si w2 m 37 1)) : ∀ (rem j : Nat) (w : bm_W), j + rem = nI → sh_Md m w → bm_gi w m 27 = (nI : Int) → q_fr (fun a => a = m + 28 ∨ a = m + 29) w0 w → (∀ i, i < j → bm_gi w (m + 28) i = 0 ∧ bm_gi w (m + 29) i = 0) → bk_X12_countBranches_2 d Φ m (j : Int) w
  | 0, j, w, hj, S, h27, hf, hz => by
    refine vb_X12_countBranches_2 ?_
    simp only [bm_c0_v, bm_c1_v, bm_c2_v, bm_c3_v, bm_c4_v, bm_c5_v, bm_u_some, decide_eq_true_eq, true_and, and_true, and_self, Bool.not_eq_true, Bool.not_eq_true', decide_eq_false_iff_not, if_true, if_false, ite_true, ite_false, eq_self, S.1, h27]
    rw [if_pos (by omega)]
    exact ⟨Or.inr trivial, hq w hf (fun i hi => hz i (by omega))⟩
  | rem + 1, j, w, hj, S, h27, hf, hz => by
    have S2 : sh_Md m (bm_si w (m + 28) j 0) := S
    refine vb_X12_countBranches_2 ?_
    simp only [bm_c0_v, bm_c1_v, bm_c2_v, bm_c3_v, bm_c4_v, bm_c5_v, bm_u_some, decide_eq_true_eq, true_and, and_true, and_self, Bool.not_eq_true, Bool.not_eq_true', decide_eq_false_iff_not, if_true, if_false, ite_true, ite_false, eq_self, S.1, h27, S.1, S.g38, S.t38, S.n38, bm_in, Int.toNat_natCast, S2.1, S2.g39, S2.t39, S2.n39, bm_w1 (show j < 2147483647 by omega)]
    rw [if_neg (by omega)]
    refine ⟨by omega, by omega, cb_2 hn w0 hq rem (j + 1) _ (by omega) S (by rw [q_gi_ne (by omega), q_gi_ne (by omega)]; exact h27) ((hf.si (Or.inl rfl)).si (Or.inr rfl)) (fun i hi => ?_)⟩
    by_cases z : i = j
    · subst z
      exact ⟨by rw [q_gi_ne (by omega), q_gi_eq], q_gi_eq⟩
    · exact ⟨by rw [q_gi_ne (by omega), q_gi_nk z]; exact (hz i (by omega)).1, by rw [q_gi_nk z, q_gi_ne (by omega)]; exact (hz i (by omega)).2⟩
theorem mp_countBranches {nI : Nat} (h : mA m B pr w) (h27 : bm_gi w m 27 = (nI : Int)) (hn : nI ≤ 54) (h37 : bm_gi w m 37 = 0) (hq : ∀ w', mO m 0 0 w w' → bm_gi w' m 0 = bm_gi w m 0 → (∀ j, j < nI → bm_gi w' (m + 28) j = q_bump 1 true (s_trs pr pr.2.length) (fun _ => 0) j ∧ bm_gi w' (m + 29) j = q_bump 1 false (s_trs pr pr.2.length) (fun _ => 0) j) → Φ (.inl none) w') : bm_Call bm_pg (d + 1202) y_X12_countBranches [bm_r (some m)] w Φ := by
  refine vc_X12_countBranches ?_
  refine cb_2 hn w (fun w2 F2 z2 => ?_) nI 0 w (by omega) h.1 h27 q_fr.rf (fun i hi => by omega)
  have F3 : q_fr (fun a => a = m ∨ a = m + 28 ∨ a = m + 29) w (bm_si w2 m 37 1) := (F2.mo (fun a z => Or.inr z)).si (Or.inl rfl)
  have e2 : ∀ k, bm_gi w2 m k = bm_gi w m k := fun k => F2.gi (by omega)
  have e3 : ∀ k, k ≠ 37 → bm_gi (bm_si w2 m 37 1) m k = bm_gi w m k := fun k hk => (q_gi_nk hk).trans (e2 k)
  have A3 : mA m B pr (bm_si w2 m 37 1) := h.mv (h.1.fr F3) (by rw [F3.sz]; exact h.2.1) (fun a j u v => ⟨F3.gi (by omega), F3.gl (by omega)⟩) (e3 18 (by decide)) (e3 28 (by decide)) (e3 11 (by decide))
  have z3 : ∀ j, j < nI → bm_gi (bm_si w2 m 37 1) (m + 28) j = 0 ∧ bm_gi (bm_si w2 m 37 1) (m + 29) j = 0 := fun j hj => ⟨(q_gi_ne (by omega)).trans (z2 j hj).1, (q_gi_ne (by omega)).trans (z2 j hj).2⟩
  have v37 : bm_gi (bm_si w2 m 37 1) m 37 = 1 := q_gi_eq
  generalize bm_si w2 m 37 1 = w3 at F3 e3 A3 z3 v37 ⊢
  refine cb_37 (d := d) w3 v37 (fun w4 Q4 A4 => ?_) pr.2.length 0 w3 (by omega) A3 ⟨q_fr.rf, fun _ _ => rfl, fun _ => rfl, fun _ => rfl⟩
  obtain ⟨a1, a2, a3, a4⟩ := Q4
  refine hq _ ⟨q_gw.of (((F3.mo (fun a z => by omega)).tr (a1.mo (fun a z => by omega))).si (Or.inl rfl)), fun k k0 k36 => ?_⟩ ?_ (fun j hj => ⟨?_, ?_⟩)
  · by_cases c : k = 37
    · rw [c, q_gi_eq, h37]
    · rw [q_gi_nk c, a2 k k36, e3 k c]
  · rw [q_gi_nk (by decide), a2 0 (by decide), e3 0 (by decide)]
  · rw [q_gi_ne (by omega), a3 j, v37]
    exact q_bump_ext _ _ _ _ _ j (z3 j hj).1
  · rw [q_gi_ne (by omega), a4 j, v37]
    exact q_bump_ext _ _ _ _ _ j (z3 j hj).2
theorem mo_taken {nI : Nat} {x v : Int} (h : mA m B pr w) (h27 : bm_gi w m 27 = (nI : Int)) (hn : nI ≤ 54) (h37 : bm_gi w m 37 = 0) (q1 : 0 ≤ x ∧ x < (nI : Int) → ∀ w', mO m 0 0 w w' → bm_gi w' m 0 = 0 → Φ (.inl (some (bm_i (q_bump 1 (decide (v ≠ 0)) (s_trs pr pr.2.length) (fun _ => 0) x.toNat)))) w') (q0 : ¬ (0 ≤ x ∧ x < (nI : Int)) → ∀ v w', mO m 0 0 w w' → bm_gi w' m 0 = 1 → Φ (.inl (some (bm_i v))) w') : bm_Call bm_pg (d + 1203) y_X12_taken [bm_r (some m), bm_i x, bm_i v] w Φ := by
  have h0 := h.thr (v := 0)
  have z0 : mO m 0 0 w (bm_si w m 0 0) := mO.rf.thr
  have e27 : bm_gi (bm_si w m 0 0) m 27 = (nI : Int) := (q_gi_nk (by decide)).trans h27
  refine vc_X12_taken ?_
  simp only [bm_c0_v, bm_c1_v, bm_c2_v, bm_c3_v, bm_c4_v, bm_c5_v, bm_u_some, decide_eq_true_eq, true_and, and_true, and_self, Bool.not_eq_true, Bool.not_eq_true', decide_eq_false_iff_not, if_true, if_false, ite_true, ite_false, eq_self, h.1.1, h0.1.1, e27, q_wI (x := (nI : Int) - 1) ⟨by omega, by omega⟩, mp_isIn, bm_c1_v, mp_no h0.1.1]
  by_cases c : 0 ≤ x ∧ x < (nI : Int)
  · rw [if_pos (show ¬ (if 0 ≤ x ∧ x ≤ (nI : Int) - 1 then (1 : Int) else 0) = 0 by rw [if_pos ⟨by omega, by omega⟩]; decide)]
    obtain ⟨j, rfl⟩ : ∃ j : Nat, x = (j : Int) := ⟨x.toNat, by omega⟩
    refine mp_countBranches (d := d) h0 e27 hn ((q_gi_nk (by decide)).trans h37) (fun w2 O2 e0 cc => ?_)
    rw [bm_c0_v]
    have S2 := (h0.mO O2).1
    have hq := q1 c w2 (z0.tr O2) (e0.trans q_gi_eq)
    have cj := cc j (by omega)
    rw [Int.toNat_natCast] at hq
    simp only [bm_c0_v, bm_c1_v, bm_c2_v, bm_c3_v, bm_c4_v, bm_c5_v, bm_u_some, decide_eq_true_eq, true_and, and_true, and_self, Bool.not_eq_true, Bool.not_eq_true', decide_eq_false_iff_not, if_true, if_false, ite_true, ite_false, eq_self, S2.1, S2.g38, S2.t38, S2.n38, S2.g39, S2.t39, S2.n39, bm_in, Int.toNat_natCast]
    by_cases c2 : v = 0
    · rw [show decide (v ≠ 0) = false by simp [c2]] at hq
      rw [if_pos c2, cj.2]
      exact ⟨by omega, hq⟩
    · rw [show decide (v ≠ 0) = true by simp [c2]] at hq
      rw [if_neg c2, cj.1]
      exact ⟨by omega, hq⟩
  · rw [if_neg (show ¬ ¬ (if 0 ≤ x ∧ x ≤ (nI : Int) - 1 then (1 : Int) else 0) = 0 by rw [if_neg (by omega)]; decide)]
    exact q0 c 0 _ z0.thr q_gi_eq
end MB
