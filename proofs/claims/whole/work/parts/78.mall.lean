/-! ===== the model's meaning of ifs, and of every expression ===== -/
section MM
variable {m N L fst til F k : Nat} {B : Int → Int} {E : q_E} {P I : Nat → Nat}
theorem mm_it {n : Nat} (hX : mcE m N L fst til F k B E P I n) {d depth p q q1 x a i zb s : Nat} {wb w : bm_W} {Φ : bm_Rt → bm_W → Prop} {acc : List q_D} (hi : i < 3) (hxp0 : x ≤ p) (hl : acc.length = i) (hb : mz m N fst til F k B E P I wb x) (h9 : bm_gi w m 9 = (p : Int)) (kt : bm_kt w m = 12) (hN1 : p + 1 ≤ N) (hp : p + 1 ≤ L) (h1 : mr m N F wb (bm_si w m 9 ((p : Int) + 1)) x (p + 1) zb s) (ha : ak m F a E wb (bm_si w m 9 ((p : Int) + 1)) acc (4 * (p + 1 - x) - 4)) (e1 : f_ex (t_K B) L n 6 depth (false, p + 1) = (false, q1)) (hfo : f_fo (t_K B) L 6 q1) (htl : q1 ≤ til) (hq : q1 ≤ q) (hn : 8 * (L - p) + 7 ≤ n) (hd : 3 * n + 20 ≤ d)
    (her : ∀ e w', m_ex (t_K B) (t_V B) L P I E n 6 depth (p + 1) [] = .inl e → mo m F B E (.inl e) x q (4 * (q - x)) e.1 wb w' → Φ (.inl (some (bm_i e.1))) w')
    (hok : ∀ l z w', m_ex (t_K B) (t_V B) L P I E n 6 depth (p + 1) [] = .inr (l, z) → mr m N F wb w' x q1 (zb + z) s → ak m F a E wb w' (acc ++ [m_hd l]) (4 * (q1 - x) - 4) → bk_X12_expression_26 d Φ m (x : Int) a ((i + 1 : Nat) : Int) w') : bk_X12_expression_26 d Φ m (x : Int) a (i : Int) w := by
  have z1 := h1.z hb
  have hm := hb.1.2.1
  have hN5 := z1.1.1.2.2.1
  have r1 := z1.rg (by decide) hN1 hp e1
  have hxp := h1.2.2.2.2.2.1
  obtain ⟨⟨a1, a2, a3, a4⟩, a5⟩ := ha
  refine vb_X12_expression_26 ?_
  rw [if_neg (by simp; omega), h9, q_wI (x := (p : Int) + 1) ⟨by omega, by omega⟩]
  refine ⟨kt, kt, z1.1.1.1.1.1, hX d depth (p + 1) q1 _ _ z1 hp e1 (by omega) hfo (by rw [if_pos rfl]; omega) (by omega) (fun y w5 h5 => ?_)⟩
  rw [bm_c1_v]
  by_cases y0 : y = 0
  · subst y0
    rw [if_pos (by decide)]
    obtain ⟨-, l, zz, hr⟩ := mo_mz z1 h5 rfl r1.2.1 r1.1
    rw [hr] at h5
    obtain ⟨h6, Q6⟩ := h1.on h5 r1.1 r1.2.1
    have z6 := h6.z hb
    have fw := h5.1
    have sz5 := fw.1.1.1
    have kt5 : bm_kt w5 a = 21 := (fw.1.kt a2).trans a3
    have kn5 : bm_kn w5 a = 3 := (fw.1.kn a2).trans a4
    have gi5 : ∀ j, bm_gi w5 a j = bm_gi (bm_si w m 9 ((p : Int) + 1)) a j := fun j => fw.1.gi a2 (by omega)
    refine ⟨z6.1.1.1.1.1, ⟨kt5, by rw [kn5]; exact ⟨by omega, by omega⟩⟩, ?_⟩
    rw [Int.toNat_natCast, q_wI (x := (i : Int) + 1) ⟨by omega, by omega⟩]
    refine hok l zz _ hr (h6.ar hb a1) ⟨⟨a1, by show a < bm_sz w5; omega, kt5, kn5⟩, fun j hj j3 => ?_⟩
    rw [List.length_append, hl] at hj
    have hj' : j < i + 1 := hj
    by_cases ij : j = i
    · subst ij
      rw [q_gi_eq, q_gd2 hl.symm]
      exact (Q6.ar (by omega)).mo (by omega)
    · rw [q_gi_nk ij, gi5, q_gd1 (by omega)]
      exact (((a5 j (by omega) j3).fr fw).ar (by omega)).mo (by omega)
  · rw [if_neg (by simpa using y0)]
    obtain ⟨e, hr, y1, y2, y3⟩ := mo_er h5 y0
    rw [hr] at h5
    subst y1
    exact her e w5 hr (h1.er h5 r1.1 hq)
theorem ak.adv {a p dp dp' : Nat} {v : Int} {wb w : bm_W} {acc : List q_D} (h : ak m F a E wb w acc dp) (hm : m + 31 < bm_sz wb) (hd : dp ≤ dp') : ak m F a E wb (bm_si w m 9 v) acc dp' := by
  obtain ⟨⟨a1, a2, a3, a4⟩, a5⟩ := h
  refine ⟨⟨a1, a2, a3, a4⟩, fun j hj j3 => ?_⟩
  rw [q_gi_ne (by omega)]
  exact ((a5 j hj j3).fr (mf.rf.fld (Or.inr (Or.inl rfl)))).mo hd
theorem mm_exp {n : Nat} (h54 : ∀ x, fst ≤ x → x < til → t_K B x = 6 → I x < 54) (hX : mcE m N L fst til F k B E P I n) (hL0 : mcL m N L fst til F k B E P I 0 n) : mcE m N L fst til F k B E P I (n + 1) := by
  intro d depth p q w Φ hz hL hok htl hfo hn hdd hq
  obtain ⟨d, rfl⟩ : ∃ d', d = d' + 20 := ⟨d - 20, by omega⟩
  have Z := hz.1.1
  have hpN := hz.2.1.2.1
  have hm := hz.1.2.1
  have h9 := hz.2.1.1
  have hN5 := Z.2.2.1
  have hF6 := hz.1.2.2.2.1
  have kc17 : t_kc 17 = 6 := rfl
  rw [if_pos rfl] at hn
  have rq := hz.rg (by decide) hpN hL hok
  have rq' := rq.2.2.2 (by decide)
  have pL : p < L := by omega
  refine vc_X12_expression ?_
  simp only [bm_c0_v, bm_c1_v, bm_c2_v, bm_c3_v, bm_c4_v, bm_c5_v, bm_u_some, decide_eq_true_eq, true_and, and_true, and_self, Bool.not_eq_true, Bool.not_eq_true', decide_eq_false_iff_not, if_true, if_false, ite_true, ite_false, eq_self, Z.1.1.1, mp_sees Z h9 hpN (show 1 ≤ 17 by decide) (show 17 < 31 by decide), kc17]
  rcases f_6_inv hok with ⟨-, hk, q1, q2, e1, l1, k1, e2, l2, k2, e3⟩ | ⟨nk, e1⟩
  · rw [if_pos hk, if_pos (by decide)]
    rw [m_6_if pL hk e1 e2] at hq
    refine ⟨by decide, ?_⟩
    rw [h9, show ((3 : Int)).toNat = 3 from rfl]
    have r1 := hz.rg (by decide) (hz.lt hpN (by omega)) (by omega) e1
    have N1 := hz.lt r1.2.1 (show t_K B q1 ≠ 0 by omega)
    have r2 := hz.rg (by decide) N1 l1 e2
    have N2 := hz.lt r2.2.1 (show t_K B q2 ≠ 0 by omega)
    have r3 := hz.rg (by decide) N2 l2 e3
    have g1 := r1.2.2.2 (by decide)
    have g2 := r2.2.2.2 (by decide)
    have g3 := r3.2.2.2 (by decide)
    have e : ∀ y i, y ≤ m + 31 → bm_gi (bm_nw w 21 3 3) y i = bm_gi w y i := fun y i hy => if_neg (by omega)
    have f1 : mf m F (0 + 1) w (bm_nw w 21 3 3) := mf.rf.new (by omega) rfl
    have w9 : bm_gi (bm_nw w 21 3 3) m 9 = (p : Int) := (e _ _ (by omega)).trans h9
    have ktm : bm_kt (bm_nw w 21 3 3) m = 12 := (if_neg (by omega)).trans Z.1.1.1
    have h1 : mr m N F w (bm_si (bm_nw w 21 3 3) m 9 ((p : Int) + 1)) p (p + 1) 0 1 := ⟨(f1.mo (by omega)).fld (Or.inr (Or.inl rfl)), by rw [q_gi_eq]; omega, by rw [q_gi_nk (by decide), e _ _ (by omega)]; omega, by rw [q_gi_ne (by omega), e _ _ (by omega)]; omega, by omega, by omega, hz.lt hpN (by omega), by rw [q_gi_nk (by decide), e _ _ (by omega)]⟩
    have a1 : ak m F (bm_sz w) E w (bm_si (bm_nw w 21 3 3) m 9 ((p : Int) + 1)) [] (4 * (p + 1 - p) - 4) := ⟨⟨Nat.le_refl _, Nat.lt_succ_self _, if_pos rfl, if_pos rfl⟩, fun i hi => absurd hi (Nat.not_lt_zero _)⟩
    have fo7 : ∀ q0, q0 < L → (t_K B q0 = 7 ∨ t_K B q0 = 8) → f_fo (t_K B) L 6 q0 := fun q0 x1 x2 => ⟨fun y => by omega, fun _ y => by omega⟩
    have fo6 : f_fo (t_K B) L 6 q := ⟨hfo.1, fun z => hfo.2 z⟩
    refine mm_it (i := 0) (acc := []) (q := q) hX (by decide) (by omega) rfl hz w9 ktm (hz.lt hpN (by omega)) (by omega) h1 a1 e1 (fo7 q1 l1 (Or.inl k1)) (by omega) (by omega) (by omega) (by omega) (fun er w' hr ho => hq _ _ (by rw [hr]; exact ho)) (fun lA zA w2 hA h2 a2 => ?_)
    have z2 := h2.z hz
    refine mm_it (i := 1) (acc := [] ++ [m_hd lA]) (q := q) hX (by decide) (by omega) rfl hz h2.2.1 z2.1.1.1.1.1 N1 (by omega) (h2.adv hz N1) (a2.adv (p := p) hm (by omega)) e2 (fo7 q2 l2 (Or.inr k2)) (by omega) (by omega) (by omega) (by omega) (fun er w' hr ho => hq _ _ (by rw [hA]; simp only [m_bind]; rw [hr]; exact ho)) (fun lB zB w3 hB h3 a3 => ?_)
    have z3 := h3.z hz
    refine mm_it (i := 2) (acc := [] ++ [m_hd lA] ++ [m_hd lB]) (q := q) hX (by decide) (by omega) rfl hz h3.2.1 z3.1.1.1.1.1 N2 (by omega) (h3.adv hz N2) (a3.adv (p := p) hm (by omega)) e3 fo6 (by omega) (by omega) (by omega) (by omega) (fun er w' hr ho => hq _ _ (by rw [hA]; simp only [m_bind]; rw [hB]; simp only [m_bind]; rw [hr]; exact ho)) (fun lC zC w4 hC h4 a4 => ?_)
    rw [hA] at hq
    simp only [m_bind] at hq
    rw [hB] at hq
    simp only [m_bind] at hq
    rw [hC] at hq
    simp only [m_bind] at hq
    have z4 := h4.z hz
    have Z4 := z4.1.1
    have mk := z4.2.2.1 p (by have := hz.2.1.2.2.1; omega) (by omega)
    have mk5 := mk.1 (Or.inr (Or.inl hk))
    have mk6 := mk.2 hk
    obtain ⟨⟨b1, b2, b3, b4⟩, b5⟩ := a4
    obtain ⟨nn, n1, n2, n3⟩ := h4.nn hz (by omega)
    refine vb_X12_expression_26 ?_
    rw [if_pos (by decide)]
    simp only [bm_c0_v, bm_c1_v, bm_c2_v, bm_c3_v, bm_c4_v, bm_c5_v, bm_u_some, decide_eq_true_eq, true_and, and_true, and_self, Bool.not_eq_true, Bool.not_eq_true', decide_eq_false_iff_not, if_true, if_false, ite_true, ite_false, eq_self, b3, b4, Z4.1.1.1, Z4.1.1.g7, Z4.1.1.t7, Z4.1.1.n7, Z4.1.1.g8, Z4.1.1.t8, Z4.1.1.n8, bm_in, Int.toNat_natCast, mk5, mk6, mp_node Z4.1.1 n1 n2, show (0 : Int).toNat = 0 from rfl, show (1 : Int).toNat = 1 from rfl, show (2 : Int).toNat = 2 from rfl]
    have Q := qn_if (m := m) (F := F) (E := E) (w := w4) (n := nn) (p := (P p : Int)) n1 n2 (b5 0 (by simp) (by decide)) (b5 1 (by simp) (by decide)) (b5 2 (by simp) (by decide)) (h54 p (by have := hz.2.1.2.2.1; omega) (by omega) hk)
    refine ⟨by omega, by omega, by omega, by omega, by omega, hq _ _ ?_⟩
    rw [Nat.zero_add] at h4
    exact h4.nd (dp := 4 * (q - p)) (by omega) n1 hm hF6 (Q.mo (by omega))
  · have hk : ¬ t_K B p = 6 := fun y => nk ⟨pL, y⟩
    rw [if_neg hk, if_neg (by decide)]
    rw [m_6_no nk] at hq
    refine hL0 (d + 18) depth p q w _ hz hL e1 htl ⟨hfo.1, fun z => hfo.2 (by omega)⟩ (by rw [if_neg (by decide)]; omega) (by omega) (fun x w' h => ?_)
    rw [bm_c1_v]
    exact hq x w' h
/-- every part of an expression -/
theorem mm_all (h54 : ∀ x, fst ≤ x → x < til → t_K B x = 6 → I x < 54) (hE : he E F k) (hI : ∀ g : Nat, g < F → 1 ≤ E.2.2.1 (g : Int) ∧ E.2.2.1 (g : Int) ≤ 3) : ∀ n, mcE m N L fst til F k B E P I n ∧ mcF m N L fst til F k B E P I n ∧ (∀ u, u ≤ 5 → mcL m N L fst til F k B E P I u n) ∧ (∀ u, u < 5 → mcP m N L fst til F k B E P I u n) ∧ mcA m N L fst til F k B E P I n
  | 0 => by
    refine ⟨?_, ?_, ?_, ?_, ?_⟩
    · intro d depth p q w Φ hz hL hok
      cases hok
    · intro d depth p q w Φ hz hL hok
      cases hok
    · intro u hu d depth p q w Φ hz hL hok
      cases hok
    · intro u hu d depth p q dp w Φ acc hz hL hf hv hok
      cases hok
    · intro d depth p q x a j g zb s wb w Φ acc hb h hs hpL hok
      cases hok
  | n + 1 => by
    obtain ⟨i1, i2, i3, i4, i5⟩ := mm_all h54 hE hI n
    have j1 := mm_exp h54 i1 (i3 0 (by decide))
    have j2 := mm_fac hE i1 i5 i2
    refine ⟨j1, j2, fun u hu => ?_, fun u hu => mm_lp hu (i3 (u + 1) (by omega)) (i4 u hu), mm_arg hE hI i1 i5⟩
    rcases Nat.lt_or_ge u 5 with y | y
    · exact mm_lv y (i3 (u + 1) (by omega)) (i4 u y)
    · rw [show u = 5 by omega]
      exact mm_lv5 j2
end MM
