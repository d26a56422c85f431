/-! ===== the model's meaning: factors, ifs, and all together ===== -/
section MM
variable {m N L fst til F k : Nat} {B : Int → Int} {E : q_E} {P I : Nat → Nat}
theorem mm_call {n : Nat} (hE : he E F k) (hX : mcE m N L fst til F k B E P I n) (hA : mcA m N L fst til F k B E P I n) {d depth q q1 x : Nat} {wb w : bm_W} {Φ : bm_Rt → bm_W → Prop} (hb : mz m N fst til F k B E P I wb x) (h : mr m N F wb w x (x + 1) 0 1) (f0 : mf m F 0 wb w) (hk : t_K B x = 3) (hk2 : t_K B (x + 1) = 16) (hp : x + 1 < L) (e1 : f_ex (t_K B) L n 6 depth (false, x + 2) = (false, q1)) (e2 : f_ex (t_K B) L n 12 depth (false, q1) = (false, q)) (htl : q ≤ til) (hn : 8 * (L - (x + 1)) + 8 ≤ n) (hd : 3 * n + 20 ≤ d + 5)
    (hq : ∀ y w', mo m F B E (if E.2.1 (t_V B x) < 0 then .inl (2, x) else m_bind (m_ex (t_K B) (t_V B) L P I E n 6 depth (x + 2) []) fun l1 z1 => m_bind (m_ex (t_K B) (t_V B) L P I E n 12 depth q1 [m_hd l1]) fun l2 z2 => if l2.length = E.2.2.1 (E.2.1 (t_V B x)) then .inr ([d_call (E.2.2.2.2 (E.2.1 (t_V B x))) l2], z1 + z2 + E.2.2.2.1 (E.2.1 (t_V B x))) else .inl (6, x)) x q (4 * (q - x)) y wb w' → Φ (.inl (some (bm_i y))) w') : bm_Call bm_pg (d + 6) y_X12_call [bm_r (some m), bm_i (x : Int)] w Φ := by
  have z := h.z hb
  have Z := z.1.1
  have hF6 := z.1.2.2.2.1
  have e18 := z.1.2.2.1
  have hN := h.2.2.2.2.2.2.1
  have hN5 := Z.2.2.1
  have hm := hb.1.2.1
  have hf := (z.2.2.2.1 x (by omega) hk).2
  have hr := hE.2.1 (t_V B x)
  have r1 := z.rg (L := L) (by decide) (z.lt hN (by omega)) hp e1
  have r2 := z.rg (L := L) (by decide) r1.2.1 r1.2.2.1 e2
  refine vc_X12_call ?_
  simp only [bm_c0_v, bm_c1_v, bm_c2_v, bm_c3_v, bm_c4_v, bm_c5_v, bm_u_some, decide_eq_true_eq, true_and, and_true, and_self, Bool.not_eq_true, Bool.not_eq_true', decide_eq_false_iff_not, if_true, if_false, ite_true, ite_false, eq_self, Z.1.1.1, Z.1.1.g19, Z.1.1.t19, Z.1.1.n19, e18, mp_nameOf Z (show x ≤ N by omega) (show 3 ≤ t_K B x ∧ t_K B x ≤ 15 by omega)]
  have e0 : (0 : Int) = ((0 : Nat) : Int) := rfl
  rw [e0, mp_find (Z.1.1.t19) (by rw [Z.1.1.n19]; omega) (by rw [Z.1.1.n19]; decide), hf, bm_c1_v]
  by_cases c : E.2.1 (t_V B x) < 0
  · have e1 : E.2.1 (t_V B x) = -1 := by omega
    rw [e1] at hq ⊢
    rw [if_neg (by decide)]
    simp only [bm_c0_v, bm_c1_v, bm_c2_v, bm_c3_v, bm_c4_v, bm_c5_v, bm_u_some, decide_eq_true_eq, true_and, and_true, and_self, Bool.not_eq_true, Bool.not_eq_true', decide_eq_false_iff_not, if_true, if_false, ite_true, ite_false, eq_self, Z.1.1.1, mp_wrong Z.1.1 (show x < 1501 by omega)]
    rw [if_pos (by decide)] at hq
    exact hq _ _ (h.wr hb (by decide) (by omega) (by omega) rfl)
  · rw [if_neg c] at hq
    rw [if_pos (by omega)]
    obtain ⟨g, hg⟩ : ∃ g : Nat, E.2.1 (t_V B x) = (g : Int) := ⟨(E.2.1 (t_V B x)).toNat, by omega⟩
    rw [hg] at hq ⊢
    have f1 : mf m F (0 + 1) wb (bm_nw w 21 3 3) := f0.new (by have := f0.1.1.1; omega) rfl
    have h1 : mr m N F wb (bm_nw w 21 3 3) x (x + 1) 0 1 := by
      obtain ⟨g1, g2, g3, g4, g5, g6, g7, g8⟩ := h
      have e : ∀ y i, y ≤ m + 31 → bm_gi (bm_nw w 21 3 3) y i = bm_gi w y i := fun y i hy => if_neg (by have := f0.1.1.1; omega)
      exact ⟨f1.mo (by omega), (e _ _ (by omega)).trans g2, by rw [e _ _ (by omega)]; exact g3, by rw [e _ _ (by omega)]; exact g4, g5, g6, g7, (e _ _ (by omega)).trans g8⟩
    have sz0 := f0.1.1.1
    have h2 := ((h1.ar (a := bm_sz w) (j := 0) (v := -1) hb sz0).ar (a := bm_sz w) (j := 1) (v := -1) hb sz0).ar (a := bm_sz w) (j := 2) (v := -1) hb sz0
    have tN : ((3 : Int)).toNat = 3 := rfl
    have t0 : ((((0 : Nat) : Int))).toNat = 0 := rfl
    have t1 : ((1 : Int)).toNat = 1 := rfl
    have t2 : ((2 : Int)).toNat = 2 := rfl
    rw [tN, t1, t2, t0]
    have k0 : bm_kt (bm_nw w 21 3 3) (bm_sz w) = 21 := if_pos rfl
    have k1 : bm_kn (bm_nw w 21 3 3) (bm_sz w) = 3 := if_pos rfl
    refine ⟨by omega, ⟨k0, by rw [k1]; exact ⟨by omega, by omega⟩⟩, ⟨k0, by show bm_in _ (bm_kn (bm_nw w 21 3 3) (bm_sz w)); rw [k1]; exact ⟨by omega, by omega⟩⟩, ⟨k0, by show bm_in _ (bm_kn (bm_nw w 21 3 3) (bm_sz w)); rw [k1]; exact ⟨by omega, by omega⟩⟩, vb_X12_call_46 ?_⟩
    have kt2 : bm_kt (bm_si (bm_si (bm_si (bm_nw w 21 3 3) (bm_sz w) 0 (-1)) (bm_sz w) 1 (-1)) (bm_sz w) 2 (-1)) (bm_sz w) = 21 := k0
    have kn2 : bm_kn (bm_si (bm_si (bm_si (bm_nw w 21 3 3) (bm_sz w) 0 (-1)) (bm_sz w) 1 (-1)) (bm_sz w) 2 (-1)) (bm_sz w) = 3 := k1
    have sz2 : bm_sz (bm_si (bm_si (bm_si (bm_nw w 21 3 3) (bm_sz w) 0 (-1)) (bm_sz w) 1 (-1)) (bm_sz w) 2 (-1)) = bm_sz w + 1 := rfl
    generalize bm_si (bm_si (bm_si (bm_nw w 21 3 3) (bm_sz w) 0 (-1)) (bm_sz w) 1 (-1)) (bm_sz w) 2 (-1) = w2 at h2 kt2 kn2 sz2 ⊢
    have k16 : t_K B (x + 1) ≠ 0 := by omega
    have := mm_49 (d := d + 5) (depth := depth) (q := q) (q1 := q1) (g := g) (a := bm_sz w) (Φ := Φ) (acc := []) hX hA hb h2 (by omega) k16 hp e1 e2 htl (by omega) hd (by omega) rfl (Nat.zero_le _) ⟨⟨sz0, by omega, kt2, kn2⟩, fun i hi => absurd hi (Nat.not_lt_zero _)⟩ (fun y w' hy => hq y w' (by simpa only [Nat.zero_add, List.nil_append] using hy))
    exact this
theorem mm_fac {n : Nat} (hE : he E F k) (hX : mcE m N L fst til F k B E P I n) (hA : mcA m N L fst til F k B E P I n) (hF : mcF m N L fst til F k B E P I n) : mcF m N L fst til F k B E P I (n + 1) := by
  intro d depth p q w Φ hz hL hok htl hfo hn hdd hq
  rw [if_neg (by decide)] at hn
  obtain ⟨d, rfl⟩ : ∃ d', d = d' + 20 := ⟨d - 20, by omega⟩
  obtain ⟨pL, hc⟩ := f_5_inv hok
  have Z0 := hz.1.1
  have hN5 := Z0.2.2.1
  have h9 := hz.2.1.1
  have hpN := hz.2.1.2.1
  have hm := hz.1.2.1
  have hF6 := hz.1.2.2.2.1
  have hk0 : t_K B p ≠ 0 := by rcases hc with y | y | y | y | y <;> first | omega | (obtain ⟨y, -⟩ := y; omega)
  have hN1 := hz.lt hpN hk0
  have h1 := (mr.rf hz).adv hz hN1
  have f1 : mf m F 0 w (bm_si w m 9 ((p : Int) + 1)) := mf.rf.fld (Or.inr (Or.inl rfl))
  have z1 := h1.z hz
  have rq := hz.rg (by decide) hpN hL hok
  refine vc_X12_factor ?_
  rw [h9, q_wI (x := (p : Int) + 1) ⟨by omega, by omega⟩]
  have kt0 := Z0.1.1.1
  refine ⟨kt0, kt0, kt0, ?_⟩
  generalize bm_si w m 9 ((p : Int) + 1) = w1 at h1 f1 z1 ⊢
  have Z := z1.1.1
  have tk := (Z.2.1 p (by omega)).1
  have kr := (t_k_rng B (t_P B p)).1
  have mk2 := t_mk_2 (t_K B p) kr
  have kc3 : t_kc 3 = 16 := rfl
  have kc1 : t_kc 1 = 29 := rfl
  have tk' : bm_gi w1 (m + 2) p = t_mk (t_K B p) := tk
  simp only [bm_c0_v, bm_c1_v, bm_c2_v, bm_c3_v, bm_c4_v, bm_c5_v, bm_u_some, decide_eq_true_eq, true_and, and_true, and_self, Bool.not_eq_true, Bool.not_eq_true', decide_eq_false_iff_not, if_true, if_false, ite_true, ite_false, eq_self, Z.1.1.1, Z.1.1.g4, Z.1.1.t4, Z.1.1.n4, bm_in, Int.toNat_natCast, tk', mk2]
  refine ⟨by omega, ?_⟩
  rcases hc with ⟨hk, e⟩ | ⟨hk, nx, e⟩ | ⟨hk, pL1, k16, q1, e1, e2⟩ | ⟨hk, q1, e1, l1, k17, e⟩ | ⟨hk, e1⟩
  · -- a number
    subst e
    rw [if_neg (fun y => y hk)]
    obtain ⟨v1, v2, v3⟩ := mp_numberOf (d := d + 18) (Φ := fun r11 w11 => bm_c1 (fun x11 => (bm_kt w11 m = 12 ∧ bm_gr w11 m 7 = some (bm_u (bm_gr w11 m 7))) ∧ (bm_kt w11 (bm_u (bm_gr w11 m 7)) = 21 ∧ bm_in (p : Int) (bm_kn w11 (bm_u (bm_gr w11 m 7)))) ∧ (bm_kt w11 m = 12) ∧ bm_Call bm_pg (d + 19) y_X12_node [bm_r (some m), bm_i 0, bm_i (-1), bm_i (-1), bm_i (-1), bm_i x11, bm_i (bm_gi w11 (bm_u (bm_gr w11 m 7)) p)] w11 (fun r12 w12 => bm_c1 (fun x12 => Φ (.inl (some (bm_i x12))) w12) (fun E => Φ (.inr E) w12) r12)) (fun E => Φ (.inr E) w11) r11) Z hpN hk
    have mk := (z1.2.2.1 p (by have := hz.2.1.2.2.1; omega) (by omega)).1 (Or.inl hk)
    obtain ⟨nn, n1, n2, n3⟩ := h1.nn hz (by omega)
    rw [m_5_num pL hk] at hq
    simp only [mp_numberOf Z hpN hk, bm_c0_v, bm_c1_v, bm_c2_v, bm_c3_v, bm_c4_v, bm_c5_v, bm_u_some, decide_eq_true_eq, true_and, and_true, and_self, Bool.not_eq_true, Bool.not_eq_true', decide_eq_false_iff_not, if_true, if_false, ite_true, ite_false, eq_self, Z.1.1.1, Z.1.1.g7, Z.1.1.t7, Z.1.1.n7, bm_in, Int.toNat_natCast, mk, mp_node Z.1.1 n1 n2]
    refine ⟨by omega, hq _ _ (h1.nd (by omega) n1 hm hF6 ((qn_num n2 ⟨v2, v3⟩).mo (by omega)))⟩
  · -- an input
    subst e
    rw [if_pos (by omega)]
    simp only [mp_isName Z hpN, bm_c0_v, bm_c1_v, bm_c2_v, bm_c3_v, bm_c4_v, bm_c5_v, bm_u_some, decide_eq_true_eq, true_and, and_true, and_self, Bool.not_eq_true, Bool.not_eq_true', decide_eq_false_iff_not, if_true, if_false, ite_true, ite_false, eq_self, Z.1.1.1]
    rw [if_pos hk, if_neg (by decide)]
    have n16 : ¬ t_K B (p + 1) = 16 := fun y => by
      rcases Nat.lt_or_ge (p + 1) L with y2 | y2
      · exact nx ⟨y2, y⟩
      · have e : p + 1 = L := by omega
        exact hfo.1 e (by unfold f_go; rw [← e]; exact Or.inr (Or.inr (Or.inl y)))
    simp only [mp_sees Z h1.2.1 hN1 (show 1 ≤ 3 by decide) (show 3 < 31 by decide), kc3, bm_c0_v, bm_c1_v, bm_c2_v, bm_c3_v, bm_c4_v, bm_c5_v, bm_u_some, decide_eq_true_eq, true_and, and_true, and_self, Bool.not_eq_true, Bool.not_eq_true', decide_eq_false_iff_not, if_true, if_false, ite_true, ite_false, eq_self]
    rw [if_neg n16, if_pos rfl]
    rw [m_5_in pL hk nx] at hq
    refine ⟨Z.1.1.1, mm_inp (d := d + 13) hE hz h1 hk (fun x w' ho => ?_)⟩
    rw [bm_c1_v]
    rw [show 4 * (p + 1 - p) = 4 by omega] at hq
    exact hq x w' ho
  · -- a call
    rw [if_pos (by omega)]
    simp only [mp_isName Z hpN, bm_c0_v, bm_c1_v, bm_c2_v, bm_c3_v, bm_c4_v, bm_c5_v, bm_u_some, decide_eq_true_eq, true_and, and_true, and_self, Bool.not_eq_true, Bool.not_eq_true', decide_eq_false_iff_not, if_true, if_false, ite_true, ite_false, eq_self, Z.1.1.1]
    rw [if_pos hk, if_neg (by decide)]
    simp only [mp_sees Z h1.2.1 hN1 (show 1 ≤ 3 by decide) (show 3 < 31 by decide), kc3, bm_c0_v, bm_c1_v, bm_c2_v, bm_c3_v, bm_c4_v, bm_c5_v, bm_u_some, decide_eq_true_eq, true_and, and_true, and_self, Bool.not_eq_true, Bool.not_eq_true', decide_eq_false_iff_not, if_true, if_false, ite_true, ite_false, eq_self]
    rw [if_pos k16, if_neg (by decide)]
    rw [m_5_call pL hk ⟨pL1, k16⟩ e1] at hq
    refine ⟨Z.1.1.1, mm_call (d := d + 13) hE hX hA hz h1 f1 hk k16 pL1 e1 e2 htl (by omega) (by omega) (fun y w' hy => ?_)⟩
    rw [bm_c1_v]
    exact hq y w' hy
  · -- parentheses
    subst e
    rw [if_pos (by omega)]
    simp only [mp_isName Z hpN, bm_c0_v, bm_c1_v, bm_c2_v, bm_c3_v, bm_c4_v, bm_c5_v, bm_u_some, decide_eq_true_eq, true_and, and_true, and_self, Bool.not_eq_true, Bool.not_eq_true', decide_eq_false_iff_not, if_true, if_false, ite_true, ite_false, eq_self, Z.1.1.1]
    rw [if_neg (show ¬ t_K B p = 3 by omega), if_pos rfl]
    simp only [mp_is Z hpN (show 1 ≤ 3 by decide) (show 3 < 31 by decide), kc3, bm_c0_v, bm_c1_v, bm_c2_v, bm_c3_v, bm_c4_v, bm_c5_v, bm_u_some, decide_eq_true_eq, true_and, and_true, and_self, Bool.not_eq_true, Bool.not_eq_true', decide_eq_false_iff_not, if_true, if_false, ite_true, ite_false, eq_self]
    rw [if_pos hk, if_neg (by decide)]
    rw [m_5_par pL hk] at hq
    have r1 := z1.rg (by decide) hN1 pL e1
    refine ⟨Z.1.1.1, hX (d + 19) (depth + 1) (p + 1) q1 w1 _ z1 pL e1 (by omega) ⟨fun y => by omega, fun _ y => by omega⟩ (by rw [if_pos rfl]; omega) (by omega) (fun x w2 h2 => ?_)⟩
    rw [bm_c1_v]
    by_cases x0 : x = 0
    · subst x0
      obtain ⟨-, l, zz, hr⟩ := mo_mz z1 h2 rfl r1.2.1 r1.1
      rw [hr] at h2 hq
      obtain ⟨h3, Q⟩ := h1.on h2 r1.1 r1.2.1
      have z3 := h3.z hz
      have h4 := h3.adv hz (by omega)
      rw [h3.2.1, q_wI (x := (q1 : Int) + 1) ⟨by omega, by omega⟩]
      refine ⟨z3.1.1.1.1.1, z3.1.1.1.1.1, hq _ _ ?_⟩
      obtain ⟨a1, a2, a3, a4, a5, a6, a7, a8⟩ := h4
      refine ⟨a1, rfl, a2, by omega, by rw [a4]; omega, by omega, ?_, a8⟩
      rw [q_gi_nk (by decide)]
      exact (Q.fr (mf.rf.fld (F := F) (Or.inr (Or.inl rfl)))).mo (by omega)
    · obtain ⟨e, hr, y1, y2, y3⟩ := mo_er h2 x0
      rw [hr] at h2 hq
      have kt2 : bm_kt w2 m = 12 := (h2.1.1.kt (by have := f1.1.1.1; omega)).trans Z.1.1.1
      refine ⟨kt2, kt2, hq _ _ ?_⟩
      have h5 := h1.er (q2 := q1 + 1) (dp' := 4 * (q1 + 1 - p)) h2 r1.1 (by omega)
      exact ⟨h5.1.fld (Or.inr (Or.inl rfl)), h5.2.1, h5.2.2.1, (q_gi_nk (by decide)).trans h5.2.2.2⟩
  · -- a sign
    rw [if_pos (by omega)]
    simp only [mp_isName Z hpN, bm_c0_v, bm_c1_v, bm_c2_v, bm_c3_v, bm_c4_v, bm_c5_v, bm_u_some, decide_eq_true_eq, true_and, and_true, and_self, Bool.not_eq_true, Bool.not_eq_true', decide_eq_false_iff_not, if_true, if_false, ite_true, ite_false, eq_self, Z.1.1.1]
    rw [if_neg (show ¬ t_K B p = 3 by omega), if_pos rfl]
    simp only [mp_is Z hpN (show 1 ≤ 3 by decide) (show 3 < 31 by decide), kc3, bm_c0_v, bm_c1_v, bm_c2_v, bm_c3_v, bm_c4_v, bm_c5_v, bm_u_some, decide_eq_true_eq, true_and, and_true, and_self, Bool.not_eq_true, Bool.not_eq_true', decide_eq_false_iff_not, if_true, if_false, ite_true, ite_false, eq_self]
    rw [if_neg (show ¬ t_K B p = 16 by omega), if_pos rfl]
    rw [m_5_un hk] at hq
    have r1 := z1.rg (by decide) hN1 pL e1
    refine ⟨Z.1.1.1, hF (d + 19) (depth + 1) (p + 1) q w1 _ z1 pL e1 htl hfo (by rw [if_neg (by decide)]; omega) (by omega) (fun x w2 h2 => ?_)⟩
    rw [bm_c1_v]
    by_cases x0 : x = 0
    · subst x0
      obtain ⟨-, l, zz, hr⟩ := mo_mz z1 h2 rfl r1.2.1 r1.1
      rw [hr] at h2 hq
      simp only [m_bind] at hq
      obtain ⟨h3, Q⟩ := h1.on h2 r1.1 r1.2.1
      have z3 := h3.z hz
      have Z3 := z3.1.1
      rw [Nat.zero_add] at h3
      obtain ⟨nn, n1, n2, n3⟩ := h3.nn hz (by omega)
      rw [if_neg (by simp)]
      simp only [bm_c0_v, bm_c1_v, bm_c2_v, bm_c3_v, bm_c4_v, bm_c5_v, bm_u_some, decide_eq_true_eq, true_and, and_true, and_self, Bool.not_eq_true, Bool.not_eq_true', decide_eq_false_iff_not, if_true, if_false, ite_true, ite_false, eq_self, Z3.1.1.1, mp_is Z3 hpN (show 1 ≤ 1 by decide) (show 1 < 31 by decide), kc1, mp_node Z3.1.1 n1 n2]
      by_cases c29 : t_K B p = 29
      · rw [if_pos c29, if_neg (by decide)]
        rw [if_pos c29] at hq
        have Q2 := qn_un (m := m) (F := F) (E := E) (k := 3) (a := bm_gi w2 m 40) (b := -1) (x := -1) (i := 0) (p := -1) n1 n2 Q (Or.inl rfl)
        exact hq _ _ (h3.nd (dp := 4 * (q - p)) (by omega) n1 hm hF6 (Q2.mo (by omega)))
      · rw [if_neg c29, if_pos rfl]
        rw [if_neg c29] at hq
        have Q2 := qn_un (m := m) (F := F) (E := E) (k := 4) (a := bm_gi w2 m 40) (b := -1) (x := -1) (i := 0) (p := -1) n1 n2 Q (Or.inr rfl)
        exact hq _ _ (h3.nd (dp := 4 * (q - p)) (by omega) n1 hm hF6 (Q2.mo (by omega)))
    · rw [if_pos (by simpa using x0)]
      obtain ⟨e, hr, y1, y2, y3⟩ := mo_er h2 x0
      rw [hr] at h2 hq
      exact hq _ _ (h1.er h2 r1.1 (Nat.le_refl _))
end MM
