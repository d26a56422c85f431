/-! ===== the class's answers: table, caseOf, holds, taken ===== -/
/-- what asking may change in the class -/
def cO (t c s : Nat) (w w' : bm_W) : Prop := q_gw (fun a => zX t a ∨ (t + 117 ≤ a ∧ a ≤ t + 121)) (fun _ => False) c s w w'
theorem q_gw.tw {A R : Nat → Prop} {c s : Nat} {w w' : bm_W} (h : q_gw A R c s w w') : q_gw A R (c + 1) (s + 6) w (bm_tw w') := by
  obtain ⟨⟨a1, a2, a3, a4⟩, a5⟩ := h
  refine ⟨⟨?_, ?_, ?_, ?_⟩, fun a ha => a5 a ha⟩
  · show bm_sz w ≤ bm_sz w' + 1; omega
  · show bm_sz w' + 1 ≤ bm_sz w + (c + 1); omega
  · show bm_sl w ≤ bm_sl w' + 6; omega
  · show bm_sl w' + 6 ≤ bm_sl w + (s + 6); omega
section CO
variable {d b t T g n : Nat} {B : Int → Int} {F : y_fn} {rows : List y_rw} {pr : y_pr} {w w' : bm_W} {Φ : bm_Rt → bm_W → Prop}
theorem cI.tw (h : cI b t w) : cI b t (bm_tw w) := by
  obtain ⟨a1, a2, a3, a4, a5, a6, a7⟩ := h
  exact ⟨a1, a2, a3, a4, a5, a6.gw (q_gw.rf (A := fun _ => False) (R := fun _ => False)).tw (fun _ _ z => z), a7⟩
theorem zC.tw (h : zC t T g n B F rows w) : zC t T g n B F rows (bm_tw w) := h
theorem cZ.tw (h : cZ b t B pr w) : cZ b t B pr (bm_tw w) := ⟨h.1.tw, h.2.1, h.2.2.1, h.2.2.2⟩
theorem zX.tb {a : Nat} (h : zX t a) : (t + 113 ≤ a ∧ a ≤ t + 116) ∨ ∃ k : Nat, k < 6 ∧ a = t + 76 + 7 * k := by
  rcases h with z | ⟨k, k6, z⟩
  · exact Or.inl z
  · have := pg_tb_in (t + 4) k k6
    exact Or.inr ⟨k, k6, by omega⟩
theorem zX.no {a : Nat} (h : zX t a ∨ a = t + 117) : t + 76 ≤ a ∧ a ≤ t + 117 := by
  rcases h with h | h
  · rcases h.tb with z | ⟨k, k6, z⟩ <;> omega
  · omega
theorem cZ.rf (h : cZ b t B pr w) (hf : q_fr (fun a => zX t a ∨ a = t + 117) w w') (h2 : bm_gi w' (t + 117) 2 = 1) (h6 : bm_gi w' (t + 113) 6 = 0) (hN : zN t pr pr.2.length w') : cZ b t B pr w' := by
  have eb := h.1.1.1
  refine ⟨h.1.frA hf (fun z => by have := zX.no z; omega) (fun z => by have := zX.no z; omega) (fun i z => by have := zX.no z; have := pg_fn_off t i; omega), h.2.1.fr hf (fun a z => z), h.2.2.1.bk (hf.gi (fun z => by have := zX.no z; omega)) (fun x _ a u v j => ?_), Or.inr ⟨h2, hN⟩, h6⟩
  have := pg_fn_off t (x : Int)
  exact ⟨hf.gi (fun z => by have := zX.no z; omega), hf.gl (fun z => by have := zX.no z; omega)⟩
theorem cO.of (hf : q_fr (fun a => zX t a ∨ a = t + 117) w w') : cO t 0 0 w w' := q_gw.of (hf.mo (fun a z => by
  rcases z with z | z
  · exact Or.inl z
  · exact Or.inr (by omega)))
theorem cO.rf : cO t 0 0 w w := q_gw.rf
theorem cZ.refresh (h : cZ b t B pr w) (hq : ∀ w', cO t 0 0 w w' → cZ b t B pr w' → zN t pr pr.2.length w' → Φ (.inl none) w') : bm_Call bm_pg (d + 26) y_X6_refresh [bm_r (some (t + 117))] w Φ :=
  sp_refresh h.2.1 h.2.2.2.2 h.2.2.2.1 (fun w2 F2 e2 e6 N2 => hq w2 (cO.of F2) (h.rf F2 e2 e6 N2) N2)
theorem co_table {x what : Int} (h : cZ b t B pr w) (q1 : (0 ≤ x ∧ x < (pr.2.length : Int)) ∧ 0 ≤ what ∧ what ≤ 4 → ∀ w', cO t 0 0 w w' → cZ b t B pr w' → Φ (.inl (some (bm_i (y_told pr x.toNat what)))) w') (q0 : ¬ ((0 ≤ x ∧ x < (pr.2.length : Int)) ∧ 0 ≤ what ∧ what ≤ 4) → Φ (.inr "java/lang/IndexOutOfBoundsException") (bm_tw w)) : bm_Call bm_pg (d + 27) y_X11_table [bm_r (some b), bm_i x, bm_i what] w Φ := by
  have c1 := h.1.1
  have S := h.2.1.1
  refine vc_X11_table ?_
  refine ⟨c1.2.1, h.exT (d := d + 24) (fun c => ?_) (fun c => q0 (fun z => c z.1))⟩
  rw [bm_c3_v]
  refine ⟨trivial, sp_below (d := d + 25) (fun c2 => ?_) (fun c2 => q0 (fun z => c2 ⟨z.2.1, by omega⟩))⟩
  rw [bm_c0_v]
  obtain ⟨k, rfl⟩ : ∃ k : Nat, x = (k : Int) := ⟨x.toNat, by omega⟩
  have hk : k < pr.2.length := by omega
  have Z := h.2.1.2.2.2 k hk
  rw [Int.toNat_natCast] at q1
  by_cases c3 : what < 3
  · rw [if_pos (by simpa using c3)]
    refine ⟨Z.2.1.1, sp_told (d := d + 23) h.2.1 (fun z => by omega) hk c2 ?_⟩
    rw [bm_c1_v]
    exact q1 ⟨c, c2.1, by omega⟩ w cO.rf h
  · rw [if_neg (by simpa using c3)]
    simp only [bm_c0_v, bm_c1_v, bm_c2_v, bm_c3_v, bm_c4_v, bm_c5_v, bm_u_some, decide_eq_true_eq, true_and, and_true, and_self, Bool.not_eq_true, Bool.not_eq_true', decide_eq_false_iff_not, if_true, if_false, ite_true, ite_false, eq_self, c1.2.1, c1.2.2.2.2.2.2.2.1, S.1]
    refine h.refresh (d := d) (fun w2 O2 Z2 N2 => ?_)
    rw [bm_c0_v]
    refine ⟨(Z2.2.1.2.2.2 k hk).2.1.1, sp_told (d := d + 23) Z2.2.1 (fun _ => N2) hk c2 ?_⟩
    rw [bm_c1_v]
    exact q1 ⟨c, c2.1, by omega⟩ w2 O2 Z2
theorem co_holds {x k : Int} (h : cZ b t B pr w) (q1 : y_isc pr x k → ∀ w', cO t 0 0 w w' → cZ b t B pr w' → Φ (.inl (some (bm_i (y_h pr x.toNat k)))) w') (q0 : ¬ y_isc pr x k → Φ (.inr "java/lang/IndexOutOfBoundsException") (bm_tw w)) : bm_Call bm_pg (d + 27) y_X11_holds [bm_r (some b), bm_i x, bm_i k] w Φ := by
  have c1 := h.1.1
  have S := h.2.1.1
  refine vc_X11_holds ?_
  refine ⟨c1.2.1, h.exT (d := d + 24) (fun c => ?_) (fun c => q0 (fun z => c ⟨z.1, z.2.1⟩))⟩
  rw [bm_c3_v]
  obtain ⟨i, rfl⟩ : ∃ i : Nat, x = (i : Int) := ⟨x.toNat, by omega⟩
  have hi : i < pr.2.length := by omega
  have Z := h.2.1.2.2.2 i hi
  have c6 := Z.2.2.2.2.1.2.2.1
  have ct := Z.2.2.2.2.1.2.2.2.1
  unfold y_isc at q1 q0
  rw [Int.toNat_natCast] at q1 q0
  rw [c6]
  refine ⟨Z.2.1.1, trivial, sp_below (d := d + 25) (fun c2 => ?_) (fun c2 => q0 (fun z => c2 z.2.2))⟩
  rw [bm_c0_v]
  simp only [bm_c0_v, bm_c1_v, bm_c2_v, bm_c3_v, bm_c4_v, bm_c5_v, bm_u_some, decide_eq_true_eq, true_and, and_true, and_self, Bool.not_eq_true, Bool.not_eq_true', decide_eq_false_iff_not, if_true, if_false, ite_true, ite_false, eq_self, c1.2.1, c1.2.2.2.2.2.2.2.1, S.1]
  refine h.refresh (d := d) (fun w2 O2 Z2 N2 => ?_)
  rw [bm_c0_v]
  have T2 := (Z2.2.1.2.2.2 i hi).2.1
  refine ⟨T2.1, ?_⟩
  have hq := q1 ⟨c.1, c.2, c2⟩ w2 O2 Z2
  obtain ⟨j, rfl⟩ : ∃ j : Nat, k = (j : Int) := ⟨k.toNat, by omega⟩
  have hn := N2.1 i hi j c2.2
  rw [sp_isHo (d := d + 25) T2, bm_c1_v]
  unfold tb_ho
  rw [Int.toNat_natCast, hn]
  have e01 : y_h pr i (j : Int) = 0 ∨ y_h pr i (j : Int) = 1 := s_ad_01
  rcases e01 with z | z
  · rw [z] at hq
    rw [if_neg (fun y => y.2.2 z)]
    exact ⟨Or.inl rfl, hq⟩
  · rw [z] at hq
    rw [if_pos ⟨by omega, by omega, fun y => by have y' : y_h pr i (j : Int) = 0 := y; omega⟩]
    exact ⟨Or.inr rfl, hq⟩
theorem tv_5 {k : Int} {j : Nat} (Z : zC t T g n B F rows w) (hj : j < 3) (hq : Φ (.inl (some (bm_i (s_in rows k j)))) w) : ∀ (l : List y_rw) (left : Int) (i : Nat), rows.drop i = l → 0 ≤ left → left < y_ct l → left < 100000 → (s_at rows k).1 = i + (s_at l left).1 → (s_at rows k).2 = (s_at l left).2 → bk_X7_valueAt_5 (d + 4) Φ T (j : Int) left (i : Int) w
  | [], left, i, hd, h0, h1, _, _, _ => by simp [y_ct] at h1; omega
  | R :: l, left, i, hd, h0, h1, h2, he, he2 => by
    obtain ⟨d1, d2, d3⟩ := q_drp (z := y_r0) hd
    obtain ⟨r, e1, e2, e3⟩ := Z.row d1
    have cs := Z.cs i d1
    have r12 := Z.2.2.2.2.1.2.1
    rw [← d2] at cs
    have gl := e2.rgl
    rw [← d2] at gl
    have e : y_ct (R :: l) = y_cs R.1 + y_ct l := rfl
    have c5 := Z.2.2.2.2.1.1
    rw [s_at_c] at he he2
    refine vb_X7_valueAt_5 ?_
    simp only [Z.2.1.1, true_and, c5, sp_rowAt (d := d + 3) Z.2.1, bm_c3_v, e1, e2.1.1, e2.1.2.1, bm_u_some, e2.1.2.2.1, sp_rc (d := d + 1) gl, bm_c1_v]
    rw [if_neg (by simp; omega)]
    by_cases c : left < y_cs R.1
    · rw [if_pos c] at he he2
      rw [if_neg (by simp; omega), sp_valueAt (d := d + 1) gl hj h0 (by omega), bm_c1_v]
      simp only [Nat.add_zero] at he he2
      unfold s_in at hq
      rw [he, he2, ← d2] at hq
      exact hq
    · rw [if_neg c] at he he2
      rw [if_pos (by simp; omega), q_wI (x := left - y_cs R.1) ⟨by omega, by omega⟩, bm_w1 (show i < 2147483647 by omega)]
      simp only at he he2
      exact tv_5 Z hj hq l (left - y_cs R.1) (i + 1) d3 (by omega) (by omega) (by omega) (by omega) he2
theorem co_taken {x v : Int} {nI : Nat} (h : cZ b t B pr w) (hI : bm_gi w (t + 4) 6 = (nI : Int)) (hI2 : nI ≤ 54) (q1 : 0 ≤ x ∧ x < (nI : Int) → ∀ w', cO t 0 0 w w' → cZ b t B pr w' → Φ (.inl (some (bm_i (q_bump 1 (decide (v ≠ 0)) (s_trs pr pr.2.length) (fun _ => 0) x.toNat)))) w') (q0 : ¬ (0 ≤ x ∧ x < (nI : Int)) → Φ (.inr "java/lang/IndexOutOfBoundsException") (bm_tw w)) : bm_Call bm_pg (d + 27) y_X11_taken [bm_r (some b), bm_i x, bm_i v] w Φ := by
  have c1 := h.1.1
  have S := h.2.1.1
  refine vc_X11_taken ?_
  simp only [bm_c0_v, bm_c1_v, bm_c2_v, bm_c3_v, bm_c4_v, bm_c5_v, bm_u_some, decide_eq_true_eq, true_and, and_true, and_self, Bool.not_eq_true, Bool.not_eq_true', decide_eq_false_iff_not, if_true, if_false, ite_true, ite_false, eq_self, c1.2.1, c1.2.2.2.2.1, S.2.2.2.1.1, hI]
  refine sp_below (d := d + 25) (fun c => ?_) q0
  rw [bm_c0_v]
  simp only [bm_c0_v, bm_c1_v, bm_c2_v, bm_c3_v, bm_c4_v, bm_c5_v, bm_u_some, decide_eq_true_eq, true_and, and_true, and_self, Bool.not_eq_true, Bool.not_eq_true', decide_eq_false_iff_not, if_true, if_false, ite_true, ite_false, eq_self, c1.2.1, c1.2.2.2.2.2.2.2.1, S.1]
  refine h.refresh (d := d) (fun w2 O2 Z2 N2 => ?_)
  rw [bm_c0_v]
  have d1 := Z2.1.1
  have S2 := Z2.2.1.1
  simp only [bm_c0_v, bm_c1_v, bm_c2_v, bm_c3_v, bm_c4_v, bm_c5_v, bm_u_some, decide_eq_true_eq, true_and, and_true, and_self, Bool.not_eq_true, Bool.not_eq_true', decide_eq_false_iff_not, if_true, if_false, ite_true, ite_false, eq_self, d1.2.1, d1.2.2.2.2.2.2.1, S2.2.2.2.2.1, sp_branchCount (d := d + 25) S2.2.2.2.2, bm_c1_v]
  have hq := q1 c w2 O2 Z2
  obtain ⟨j, rfl⟩ : ∃ j : Nat, x = (j : Int) := ⟨x.toNat, by omega⟩
  have cc := N2.2 j (by omega)
  rw [Int.toNat_natCast] at hq ⊢
  rw [if_pos ⟨by omega, by omega⟩]
  have e1 : bm_gi w2 (t + 113 + 2) j = q_bump 1 true (s_trs pr pr.2.length) (fun _ => 0) j := cc.1
  have e2 : bm_gi w2 (t + 113 + 3) j = q_bump 1 false (s_trs pr pr.2.length) (fun _ => 0) j := cc.2
  by_cases c2 : v = 0
  · rw [show decide (v ≠ 0) = false by simp [c2]] at hq
    rw [if_pos c2, e2]
    exact hq
  · rw [show decide (v ≠ 0) = true by simp [c2]] at hq
    rw [if_neg c2, e1]
    exact hq
end CO
