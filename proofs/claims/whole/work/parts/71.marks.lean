/-! ===== the model: nodes are made, places are marked ===== -/
section ML
variable {d m N : Nat} {B : Int → Int} {w : bm_W} {Φ : bm_Rt → bm_W → Prop}
theorem mp_node {n : Nat} {k a b c i p : Int} (h : sh_Md m w) (hn : bm_gi w m 11 = (n : Int)) (h15 : n < 1500) : bm_Call bm_pg (d + 1) y_X12_node [bm_r (some m), bm_i k, bm_i a, bm_i b, bm_i c, bm_i i, bm_i p] w Φ ↔ Φ (.inl (some (bm_i 0))) (md_nd w m n k a b c i p) := by
  refine bm_ans (fun Ψ q => vc_X12_node ?_)
  have x1 : bm_gi (bm_si w (m + 7) n k) m 11 = (n : Int) := (q_gi_ne (by omega)).trans hn
  have x2 : bm_gi (bm_si (bm_si w (m + 7) n k) (m + 8) n a) m 11 = (n : Int) := (q_gi_ne (by omega)).trans x1
  have x3 : bm_gi (bm_si (bm_si (bm_si w (m + 7) n k) (m + 8) n a) (m + 9) n b) m 11 = (n : Int) := (q_gi_ne (by omega)).trans x2
  have x4 : bm_gi (bm_si (bm_si (bm_si (bm_si w (m + 7) n k) (m + 8) n a) (m + 9) n b) (m + 10) n c) m 11 = (n : Int) := (q_gi_ne (by omega)).trans x3
  have M1 : sh_Md m (bm_si w (m + 7) n k) := h
  have M2 : sh_Md m (bm_si (bm_si w (m + 7) n k) (m + 8) n a) := h
  have M3 : sh_Md m (bm_si (bm_si (bm_si w (m + 7) n k) (m + 8) n a) (m + 9) n b) := h
  have M4 : sh_Md m (bm_si (bm_si (bm_si (bm_si w (m + 7) n k) (m + 8) n a) (m + 9) n b) (m + 10) n c) := h
  have fin : bk_X12_node_41 d Ψ m i p (bm_si (bm_si (bm_si (bm_si w (m + 7) n k) (m + 8) n a) (m + 9) n b) (m + 10) n c) := by
    unfold md_nd at q
    refine vb_X12_node_41 ?_
    generalize bm_si (bm_si (bm_si (bm_si w (m + 7) n k) (m + 8) n a) (m + 9) n b) (m + 10) n c = w4 at x4 M4 q ⊢
    have y1 : bm_gi (bm_si w4 (m + 11) n i) m 11 = (n : Int) := (q_gi_ne (by omega)).trans x4
    have y2 : bm_gi (bm_si (bm_si w4 (m + 11) n i) (m + 12) n p) m 11 = (n : Int) := (q_gi_ne (by omega)).trans y1
    have y3 : bm_gi (bm_si (bm_si (bm_si w4 (m + 11) n i) (m + 12) n p) m 40 (n : Int)) m 11 = (n : Int) := (q_gi_nk (by decide)).trans y2
    have N1 : sh_Md m (bm_si w4 (m + 11) n i) := M4
    have N2 : sh_Md m (bm_si (bm_si w4 (m + 11) n i) (m + 12) n p) := M4
    have N3 : sh_Md m (bm_si (bm_si (bm_si w4 (m + 11) n i) (m + 12) n p) m 40 (n : Int)) := M4
    simp only [bm_c0_v, bm_c1_v, bm_c2_v, bm_c3_v, bm_c4_v, bm_c5_v, bm_u_some, decide_eq_true_eq, true_and, and_true, and_self, Bool.not_eq_true, Bool.not_eq_true', decide_eq_false_iff_not, if_true, if_false, ite_true, ite_false, eq_self, M4.1, M4.g16, M4.t16, M4.n16, x4, Int.toNat_natCast, N1.1, N1.g17, N1.t17, N1.n17, y1, N2.1, y2, N3.1, y3, bm_in, q_wI (x := (n : Int) + 1) ⟨by omega, by omega⟩]
    exact ⟨by omega, by omega, vb_X12_node_81 q⟩
  simp only [bm_c0_v, bm_c1_v, bm_c2_v, bm_c3_v, bm_c4_v, bm_c5_v, bm_u_some, decide_eq_true_eq, true_and, and_true, and_self, Bool.not_eq_true, Bool.not_eq_true', decide_eq_false_iff_not, if_true, if_false, ite_true, ite_false, eq_self, h.1, h.g12, h.t12, h.n12, hn, Int.toNat_natCast, M1.1, M1.g13, M1.t13, M1.n13, x1, M2.1, M2.g14, M2.t14, M2.n14, x2, M3.1, M3.g15, M3.t15, M3.n15, x3, bm_in]
  exact ⟨by omega, by omega, by omega, by omega, fin⟩
/-- places and ifs, marked up to q -/
def mk_to (m from' q : Nat) (K : Nat → Int) (P I : Nat → Nat) (w w' : bm_W) : Prop := q_fr (fun a => a = m ∨ a = m + 5 ∨ a = m + 6 ∨ a = m + 19) w w' ∧ (∀ k, k ≠ 27 → bm_gi w' m k = bm_gi w m k) ∧ bm_gi w' m 27 = (I q : Int) ∧
  (∀ x, from' ≤ x → x < q → (f_pl K from' x → bm_gi w' (m + 5) x = (P x : Int)) ∧ (¬ f_pl K from' x → bm_gi w' (m + 5) x = -1) ∧ (K x = 6 → bm_gi w' (m + 6) x = (I x : Int)))
theorem t_opr_all (k : Int) : t_opr k 0 13 = -1 ↔ ¬ (k = 9 ∨ k = 10 ∨ (22 ≤ k ∧ k ≤ 32)) := by unfold t_opr; grind
theorem mk_loop {from' til : Nat} {P I : Nat → Nat} {w0 : bm_W} (hP : hp (t_K B) P I from') (hP0 : P from' = 0) (ht : til ≤ N) (hz : md_Z m B N w0) (h18 : 0 ≤ bm_gi w0 m 18 ∧ bm_gi w0 m 18 < 6)
    (hq : ∀ w', mk_to m from' til (t_K B) P I w0 w' → bm_gi w' (m + 19) (bm_gi w0 m 18).toNat = (P til : Int) → (∀ j, j ≠ (bm_gi w0 m 18).toNat → bm_gi w' (m + 19) j = bm_gi w0 (m + 19) j) → Φ (.inl none) w') :
    ∀ (n q : Nat) (w : bm_W), q + n = til → from' ≤ q → mk_to m from' q (t_K B) P I w0 w → (∀ j, bm_gi w (m + 19) j = bm_gi w0 (m + 19) j) → bk_X12_markPlaces_5 (d + 6) Φ m (from' : Int) (til : Int) (P q : Int) (q : Int) w
  | 0, q, w, hn, hf, hm, h19 => by
    have z : md_Z m B N w := md_Z.fr hm.1 (fun j _ _ => by omega) (hm.2.1 2 (by decide)) hz
    have e18 := hm.2.1 18 (by decide)
    have e : q = til := by omega
    subst e
    refine vb_X12_markPlaces_5 ?_
    rw [if_pos (by simp)]
    simp only [bm_c0_v, bm_c1_v, bm_c2_v, bm_c3_v, bm_c4_v, bm_c5_v, bm_u_some, decide_eq_true_eq, true_and, and_true, and_self, Bool.not_eq_true, Bool.not_eq_true', decide_eq_false_iff_not, if_true, if_false, ite_true, ite_false, eq_self, z.1.1.1, z.1.1.g25, z.1.1.t25, z.1.1.n25, bm_in, e18]
    refine ⟨by omega, hq _ ⟨hm.1.si (by omega), fun k hk => (q_gi_ne (by omega)).trans (hm.2.1 k hk), (q_gi_ne (by omega)).trans hm.2.2.1, fun x a b => ?_⟩ q_gi_eq (fun j hj => (q_gi_nk hj).trans (h19 j))⟩
    rw [q_gi_ne (by omega), q_gi_ne (by omega)]
    exact hm.2.2.2 x a b
  | n + 1, q, w, hn, hf, hm, h19 => by
    have z : md_Z m B N w := md_Z.fr hm.1 (fun j _ _ => by omega) (hm.2.1 2 (by decide)) hz
    have hN5 := hz.2.2.1
    have hPq := hP.2.2.1 q
    have hIq := hP.2.2.2 q
    -- the mark is taken away
    have m1 : q_fr (fun a => a = m ∨ a = m + 5 ∨ a = m + 6 ∨ a = m + 19) w (bm_si w (m + 5) q (-1)) := q_fr.rf.si (by omega)
    have z1 : md_Z m B N (bm_si w (m + 5) q (-1)) := md_Z.fr m1 (fun j _ _ => by omega) (q_gi_ne (by omega)) z
    have kr := (t_k_rng B (t_P B q)).1
    have mk2 := t_mk_2 (t_K B q) kr
    have tb := z1.2.1 q (by omega)
    have kc17 : t_kc 17 = 6 := rfl
    have kc4 : t_kc 4 = 17 := rfl
    have kc1 : t_kc 1 = 29 := rfl
    -- on behind the token
    have go : ∀ w2 : bm_W, mk_to m from' (q + 1) (t_K B) P I w0 w2 → (∀ j, bm_gi w2 (m + 19) j = bm_gi w0 (m + 19) j) → ∀ v : Int, v = (P (q + 1) : Int) → bk_X12_markPlaces_5 (d + 6) Φ m (from' : Int) (til : Int) v (bm_w ((q : Int) + 1)) w2 := by
      intro w2 h2 h3 v hv
      rw [hv, q_wI (x := (q : Int) + 1) ⟨by omega, by omega⟩]
      exact mk_loop hP hP0 ht hz h18 hq n (q + 1) w2 (by omega) (by omega) h2 h3
    have K125 : ∀ s0 : Int, (s0 = 0 ∨ s0 = 1) → (s0 = 1 ↔ f_pl (t_K B) from' q) → bk_X12_markPlaces_125 (d + 6) Φ m (from' : Int) (til : Int) (P q : Int) (q : Int) s0 (bm_si w (m + 5) q (-1)) := by
      intro s0 hs hpl
      refine vb_X12_markPlaces_125 ?_
      have p1 := hP.1 q hf
      have p2 := hP.2.1 q
      by_cases s00 : s0 = 0
      · have npl : ¬ f_pl (t_K B) from' q := fun y => by have := hpl.mpr y; omega
        have n6 : t_K B q ≠ 6 := fun y => npl (Or.inr (Or.inl y))
        rw [if_pos (by simpa using s00)]
        simp only [bm_c0_v, bm_c1_v, bm_c2_v, bm_c3_v, bm_c4_v, bm_c5_v, bm_u_some, decide_eq_true_eq, true_and, and_true, and_self, Bool.not_eq_true, Bool.not_eq_true', decide_eq_false_iff_not, if_true, if_false, ite_true, ite_false, eq_self, z1.1.1.1, mp_is z1 (show q ≤ N by omega) (show 1 ≤ 17 by decide) (show 17 < 31 by decide), kc17]
        rw [if_neg n6, if_pos rfl]
        refine go _ ⟨hm.1.tr m1, fun k hk => (q_gi_ne (by omega)).trans (hm.2.1 k hk), ?_, fun x a b => ?_⟩ (fun j => (q_gi_ne (by omega)).trans (h19 j)) _ (by rw [p1.2 npl])
        · rw [q_gi_ne (by omega), p2.2 n6]; exact hm.2.2.1
        · rcases Nat.lt_or_ge x q with y | y
          · rw [q_gi_nk (by omega), q_gi_ne (by omega)]
            exact hm.2.2.2 x a y
          · obtain rfl : x = q := by omega
            exact ⟨fun y => absurd y npl, fun _ => q_gi_eq, fun y => absurd y n6⟩
      · have pl : f_pl (t_K B) from' q := hpl.mp (by omega)
        rw [if_neg (by simpa using s00)]
        have z2 : md_Z m B N (bm_si (bm_si w (m + 5) q (-1)) (m + 5) q (P q : Int)) := md_Z.fr (A := fun a => a = m ∨ a = m + 5 ∨ a = m + 6 ∨ a = m + 19) (q_fr.rf.si (by omega)) (fun j _ _ => by omega) (q_gi_ne (by omega)) z1
        simp only [bm_c0_v, bm_c1_v, bm_c2_v, bm_c3_v, bm_c4_v, bm_c5_v, bm_u_some, decide_eq_true_eq, true_and, and_true, and_self, Bool.not_eq_true, Bool.not_eq_true', decide_eq_false_iff_not, if_true, if_false, ite_true, ite_false, eq_self, z1.1.1.1, z1.1.1.g7, z1.1.1.t7, z1.1.1.n7, bm_in, Int.toNat_natCast, z2.1.1.1, z2.1.1.g8, z2.1.1.t8, z2.1.1.n8, mp_is z2 (show q ≤ N by omega) (show 1 ≤ 17 by decide) (show 17 < 31 by decide), kc17]
        refine ⟨by omega, ?_⟩
        have e5 : bm_gi (bm_si (bm_si w (m + 5) q (-1)) (m + 5) q (P q : Int)) (m + 5) q = (P q : Int) := q_gi_eq
        have e27 : bm_gi (bm_si (bm_si w (m + 5) q (-1)) (m + 5) q (P q : Int)) m 27 = (I q : Int) := by rw [q_gi_ne (by omega), q_gi_ne (by omega)]; exact hm.2.2.1
        have ek : ∀ k, k ≠ 27 → bm_gi (bm_si (bm_si w (m + 5) q (-1)) (m + 5) q (P q : Int)) m k = bm_gi w0 m k := fun k hk => by rw [q_gi_ne (by omega), q_gi_ne (by omega)]; exact hm.2.1 k hk
        have eo : ∀ x, from' ≤ x → x < q → bm_gi (bm_si (bm_si w (m + 5) q (-1)) (m + 5) q (P q : Int)) (m + 5) x = bm_gi w (m + 5) x ∧ bm_gi (bm_si (bm_si w (m + 5) q (-1)) (m + 5) q (P q : Int)) (m + 6) x = bm_gi w (m + 6) x := fun x _ hx => by
          rw [q_gi_nk (by omega), q_gi_nk (by omega), q_gi_ne (by omega), q_gi_ne (by omega)]
          exact ⟨rfl, rfl⟩
        have e19 : ∀ j, bm_gi (bm_si (bm_si w (m + 5) q (-1)) (m + 5) q (P q : Int)) (m + 19) j = bm_gi w0 (m + 19) j := fun j => by rw [q_gi_ne (by omega), q_gi_ne (by omega)]; exact h19 j
        have m2 : q_fr (fun a => a = m ∨ a = m + 5 ∨ a = m + 6 ∨ a = m + 19) w0 (bm_si (bm_si w (m + 5) q (-1)) (m + 5) q (P q : Int)) := (hm.1.tr m1).si (by omega)
        generalize bm_si (bm_si w (m + 5) q (-1)) (m + 5) q (P q : Int) = w2 at z2 e5 e27 ek eo e19 m2 ⊢
        rw [q_wI (x := (P q : Int) + 1) ⟨by omega, by omega⟩]
        by_cases c6 : t_K B q = 6
        · rw [if_pos c6, if_neg (by decide), e27, q_wI (x := (I q : Int) + 1) ⟨by omega, by omega⟩]
          have z3 : sh_Md m (bm_si w2 m 27 ((I q : Int) + 1)) := z2.1.1
          simp only [bm_c0_v, bm_c1_v, bm_c2_v, bm_c3_v, bm_c4_v, bm_c5_v, bm_u_some, decide_eq_true_eq, true_and, and_true, and_self, Bool.not_eq_true, Bool.not_eq_true', decide_eq_false_iff_not, if_true, if_false, ite_true, ite_false, eq_self, z3.1, z3.g8, z3.t8, z3.n8, bm_in]
          refine ⟨by omega, go _ ⟨(m2.si (by omega)).si (by omega), fun k hk => ?_, ?_, fun x a b => ?_⟩ (fun j => by rw [q_gi_ne (by omega), q_gi_ne (by omega)]; exact e19 j) _ (by rw [p1.1 pl]; omega)⟩
          · rw [q_gi_ne (by omega), q_gi_nk hk]; exact ek k hk
          · rw [q_gi_ne (by omega), q_gi_eq, p2.1 c6]; omega
          · rcases Nat.lt_or_ge x q with y | y
            · rw [q_gi_ne (by omega), q_gi_ne (by omega), q_gi_nk (by omega), q_gi_ne (by omega), (eo x a y).1, (eo x a y).2]
              exact hm.2.2.2 x a y
            · obtain rfl : x = q := by omega
              refine ⟨fun _ => ?_, fun y => absurd pl y, fun _ => q_gi_eq⟩
              rw [q_gi_ne (by omega), q_gi_ne (by omega)]; exact e5
        · rw [if_neg c6, if_pos rfl]
          refine go _ ⟨m2, ek, ?_, fun x a b => ?_⟩ e19 _ (by rw [p1.1 pl]; omega)
          · rw [e27, p2.2 c6]
          · rcases Nat.lt_or_ge x q with y | y
            · rw [(eo x a y).1, (eo x a y).2]
              exact hm.2.2.2 x a y
            · obtain rfl : x = q := by omega
              exact ⟨fun _ => e5, fun y => absurd pl y, fun y => absurd y c6⟩
    have K67 : ∀ s0 : Int, (s0 = 0 ∨ s0 = 1) → (s0 = 1 ↔ from' < q ∧ f_ve (t_K B) q) → bk_X12_markPlaces_67 (d + 6) Φ m (from' : Int) (til : Int) (P q : Int) (q : Int) s0 (bm_si w (m + 5) q (-1)) := by
      intro s0 hs hbe
      refine vb_X12_markPlaces_67 ?_
      simp only [bm_c0_v, bm_c1_v, bm_c2_v, bm_c3_v, bm_c4_v, bm_c5_v, bm_u_some, decide_eq_true_eq, true_and, and_true, and_self, Bool.not_eq_true, Bool.not_eq_true', decide_eq_false_iff_not, if_true, if_false, ite_true, ite_false, eq_self, z1.1.1.1, z1.1.1.g4, z1.1.1.t4, z1.1.1.n4, bm_in, Int.toNat_natCast, tb.1, mk2, mp_is z1 (show q ≤ N by omega) (show 1 ≤ 17 by decide) (show 17 < 31 by decide), mp_is z1 (show q ≤ N by omega) (show 1 ≤ 1 by decide) (show 1 < 31 by decide), mp_operator z1 (show q ≤ N by omega) (show (0 : Int) ≤ 0 by decide) (show (13 : Int) ≤ 13 by decide), kc17, kc1, t_opr_all]
      refine ⟨by omega, ?_⟩
      by_cases c2 : t_K B q = 2
      · rw [if_pos c2]
        exact K125 1 (Or.inr rfl) ⟨fun _ => Or.inl c2, fun _ => rfl⟩
      rw [if_neg c2]
      by_cases c6 : t_K B q = 6
      · rw [if_pos c6, if_pos (by decide)]
        exact K125 1 (Or.inr rfl) ⟨fun _ => Or.inr (Or.inl c6), fun _ => rfl⟩
      rw [if_neg c6, if_neg (by decide)]
      by_cases co : t_K B q = 9 ∨ t_K B q = 10 ∨ (22 ≤ t_K B q ∧ t_K B q ≤ 32)
      · rw [if_neg (fun y => y co)]
        by_cases c29 : t_K B q = 29
        · rw [if_pos c29, if_neg (by decide)]
          by_cases s00 : s0 = 0
          · rw [if_pos s00]
            refine K125 0 (Or.inl rfl) ⟨fun y => absurd y (by decide), fun y => ?_⟩
            exfalso
            have : ¬ s0 = 1 := by omega
            apply this
            apply hbe.mpr
            unfold f_pl at y
            rcases y with y | y | y | y | y
            · omega
            · omega
            · omega
            · omega
            · exact y.2.2 c29
          · rw [if_neg s00]
            exact K125 1 (Or.inr rfl) ⟨fun _ => Or.inr (Or.inr (Or.inr (Or.inr ⟨by omega, by omega, fun _ => hbe.mp (by omega)⟩))), fun _ => rfl⟩
        · rw [if_neg c29, if_pos rfl]
          refine K125 1 (Or.inr rfl) ⟨fun _ => ?_, fun _ => rfl⟩
          rcases co with y | y | y
          · exact Or.inr (Or.inr (Or.inl y))
          · exact Or.inr (Or.inr (Or.inr (Or.inl y)))
          · exact Or.inr (Or.inr (Or.inr (Or.inr ⟨y.1, y.2, fun e => absurd e c29⟩)))
      · rw [if_pos co]
        refine K125 0 (Or.inl rfl) ⟨fun y => absurd y (by decide), fun y => ?_⟩
        exfalso
        unfold f_pl at y
        omega
    refine vb_X12_markPlaces_5 ?_
    rw [if_neg (by simp; omega)]
    simp only [bm_c0_v, bm_c1_v, bm_c2_v, bm_c3_v, bm_c4_v, bm_c5_v, bm_u_some, decide_eq_true_eq, true_and, and_true, and_self, Bool.not_eq_true, Bool.not_eq_true', decide_eq_false_iff_not, if_true, if_false, ite_true, ite_false, eq_self, z.1.1.1, z.1.1.g7, z.1.1.t7, z.1.1.n7, bm_in, Int.toNat_natCast, z1.1.1.1, z1.1.1.g4, z1.1.1.t4, z1.1.1.n4]
    refine ⟨by omega, ?_⟩
    by_cases cf : (q : Int) ≤ from'
    · rw [if_pos cf]
      exact K67 0 (Or.inl rfl) ⟨fun y => absurd y (by decide), fun y => by have := y.1; omega⟩
    · rw [if_neg cf, show bm_w ((q : Int) - 1) = ((q - 1 : Nat) : Int) by rw [q_wI ⟨by omega, by omega⟩]; omega]
      have tb1 := z1.2.1 (q - 1) (by omega)
      have kr1 := (t_k_rng B (t_P B (q - 1))).1
      have mk21 := t_mk_2 (t_K B (q - 1)) kr1
      have hbe : ∀ x : Prop, (x ↔ t_K B (q - 1) = 2 ∨ t_K B (q - 1) = 3 ∨ t_K B (q - 1) = 17) → (x ↔ from' < q ∧ f_ve (t_K B) q) := fun x hx => ⟨fun y => ⟨by omega, by omega, hx.mp y⟩, fun y => hx.mpr y.2.2⟩
      simp only [Int.toNat_natCast, tb1.1, mk21, mp_isName z1 (show q - 1 ≤ N by omega), mp_is z1 (show q - 1 ≤ N by omega) (show 1 ≤ 4 by decide) (show 4 < 31 by decide), kc4, bm_c1_v, z1.1.1.1, true_and]
      refine ⟨by omega, ?_⟩
      by_cases c2 : t_K B (q - 1) = 2
      · rw [if_pos c2]
        exact K67 1 (Or.inr rfl) (hbe _ ⟨fun _ => Or.inl c2, fun _ => rfl⟩)
      rw [if_neg c2]
      by_cases c3 : t_K B (q - 1) = 3
      · rw [if_pos c3, if_pos (by decide)]
        exact K67 1 (Or.inr rfl) (hbe _ ⟨fun _ => Or.inr (Or.inl c3), fun _ => rfl⟩)
      rw [if_neg c3, if_neg (by decide)]
      by_cases c17 : t_K B (q - 1) = 17
      · rw [if_pos c17, if_neg (by decide)]
        exact K67 1 (Or.inr rfl) (hbe _ ⟨fun _ => Or.inr (Or.inr c17), fun _ => rfl⟩)
      · rw [if_neg c17, if_pos rfl]
        exact K67 0 (Or.inl rfl) (hbe _ ⟨fun y => absurd y (by decide), fun y => by omega⟩)
theorem mp_mark {from' til : Nat} {P I : Nat → Nat} (hP : hp (t_K B) P I from') (hP0 : P from' = 0) (hI : bm_gi w m 27 = (I from' : Int)) (hft : from' ≤ til) (ht : til ≤ N) (hz : md_Z m B N w) (h18 : 0 ≤ bm_gi w m 18 ∧ bm_gi w m 18 < 6)
    (hq : ∀ w', mk_to m from' til (t_K B) P I w w' → bm_gi w' (m + 19) (bm_gi w m 18).toNat = (P til : Int) → (∀ j, j ≠ (bm_gi w m 18).toNat → bm_gi w' (m + 19) j = bm_gi w (m + 19) j) → Φ (.inl none) w') : bm_Call bm_pg (d + 7) y_X12_markPlaces [bm_r (some m), bm_i (from' : Int), bm_i (til : Int)] w Φ := by
  refine vc_X12_markPlaces ?_
  have := mk_loop (d := d) (Φ := Φ) hP hP0 ht hz h18 hq (til - from') from' w (by omega) (Nat.le_refl _) ⟨q_fr.rf, fun _ _ => rfl, hI, fun x a b => by omega⟩ (fun _ => rfl)
  rw [hP0] at this
  exact this
end ML
