/-! ===== the model: compile ===== -/
theorem f_its_end {K : Nat → Int} {N : Nat} (h0 : K N = 0) (hN : N ≤ 1500) : ∀ (n p e : Nat), p ≤ N → f_its K n (false, p) = (false, e) → K e = 0 ∧ p ≤ e ∧ e ≤ N
  | 0, p, e, hp, h => by cases h
  | n + 1, p, e, hp, h => by
    cases hc : f_itm K (false, p) with
    | mk b q =>
      cases b with
      | true => rw [f_its_x hc] at h; cases h
      | false =>
        have far := f_far_itm (K := K) (N := N) h0 (false, p) hp
        rw [hc] at far
        have qN : q ≤ N := far.2.1
        have pq : p ≤ q := far.1
        by_cases c0 : K q = 0
        · rw [f_its_f hc c0 (by omega)] at h
          have := congrArg Prod.snd h
          simp only at this
          subst this
          exact ⟨c0, pq, qN⟩
        · rw [f_its_t hc c0] at h
          have := f_its_end h0 hN n q e qN h
          exact ⟨this.1, by omega, this.2.2⟩
/-- the answer of a compile, in the model -/
def ans_m (m : Nat) (B : Int → Int) (N : Nat) (r : (Int × Nat) ⊕ y_pr) (x : Int) (w' : bm_W) : Prop := match r with
  | .inl e => x = e.1 ∧ e.1 ≠ 0 ∧ bm_gi w' m 3 = t_P B e.2 ∧ bm_gi w' m 18 = 0 ∧ bm_gi w' m 28 = 0 ∧ bm_gi w' m 27 = 0
  | .inr pr => x = 0 ∧ bm_gi w' m 3 = -1 ∧ mfs m B pr.1 w' ∧ mts m B pr w' ∧ bm_gi w' m 27 = (y_I (t_K B) N : Int) ∧ y_fks pr ∧ y_I (t_K B) N ≤ 9 * pr.1.length
section MN
variable {d m N : Nat} {B : Int → Int} {w w0 w' : bm_W} {Φ : bm_Rt → bm_W → Prop} {pr : y_pr}
theorem mp_forget (h : bm_kt w m = 12) : bm_Call bm_pg (d + 1) y_X12_forget [bm_r (some m)] w Φ ↔ Φ (.inl none) (bm_si (bm_si (bm_si (bm_si w m 18 0) m 28 0) m 27 0) m 11 0) := by
  refine bm_ans (fun Ψ q => vc_X12_forget ?_)
  simp only [bm_c0_v, bm_c1_v, bm_c2_v, bm_c3_v, bm_c4_v, bm_c5_v, bm_u_some, decide_eq_true_eq, true_and, and_true, and_self, Bool.not_eq_true, Bool.not_eq_true', decide_eq_false_iff_not, if_true, if_false, ite_true, ite_false, eq_self, h]
  exact ⟨h, h, h, vb_X12_forget_20 q⟩
theorem mp_meaning {e : Nat} (h : ml m N B ([], []) 0 w) (h9 : bm_gi w m 9 = ((0 : Nat) : Int)) (hf : f_its (t_K B) f_T (false, 0) = (false, e)) (hke : t_K B e = 0) (hq : ∀ x w', mG m e w w' → ma m w B (y_its (t_K B) (t_V B) f_T ([], []) 0) x w' (fun pr' => ml m N B pr' e w' ∧ y_fks pr') → Φ (.inl (some (bm_i x))) w') : bm_Call bm_pg (d + 1267) y_X12_meaning [bm_r (some m)] w Φ := by
  have := mm_its (d := d) f_T ([], []) 0 w Φ h (fun g hg => by cases hg) h9 (Nat.zero_le _) hf hke (fun x w' G a => hq x w' G a)
  refine bm_enter rfl ?_
  exact this
theorem mp_43e {s0 : Int} (h : sh_Md m w) (h0 : s0 ≠ 0) (hq : ∀ w', q_fr (fun a => a = m) w w' → bm_gi w' m 3 = bm_gi w m 3 → (∀ k, k = 0 ∨ k = 37 → bm_gi w' m k = bm_gi w m k) → bm_gi w' m 2 = 0 → bm_gi w' m 18 = 0 → bm_gi w' m 28 = 0 → bm_gi w' m 27 = 0 → Φ (.inl (some (bm_i s0))) w') : bk_X12_compile_43 (d + 1) Φ m s0 w := by
  have S2 : sh_Md m (bm_si (bm_si w m 9 0) m 2 0) := h
  refine vb_X12_compile_43 ?_
  simp only [bm_c0_v, bm_c1_v, bm_c2_v, bm_c3_v, bm_c4_v, bm_c5_v, bm_u_some, decide_eq_true_eq, true_and, and_true, and_self, Bool.not_eq_true, Bool.not_eq_true', decide_eq_false_iff_not, if_true, if_false, ite_true, ite_false, eq_self, h.1, mp_forget S2.1, bm_c0_v]
  rw [if_pos h0, if_neg h0]
  have g : ∀ j, bm_gi (bm_si (bm_si (bm_si (bm_si (bm_si (bm_si w m 9 0) m 2 0) m 18 0) m 28 0) m 27 0) m 11 0) m j = if j = 11 ∨ j = 27 ∨ j = 28 ∨ j = 18 ∨ j = 2 ∨ j = 9 then 0 else bm_gi w m j := fun j => by
    simp only [bm_si_gi]
    grind
  refine ⟨h.1, h.1, hq _ (((((((q_fr.rf (A := fun a => a = m)).si rfl).si rfl).si rfl).si rfl).si rfl).si rfl) ?_ (fun k hk => by rw [g, if_neg (by omega)]) ?_ ?_ ?_ ?_⟩ <;> rw [g] <;> simp
theorem mp_compile (h : md_B m B w) (hs : m + 31 < bm_sz w) (hq : ∀ x N w', q_gw (fun a => m ≤ a ∧ a ≤ m + 31) (fun _ => False) N (3 * N) w w' → (N : Int) ≤ bm_gi w m 2 → N ≤ 1500 → (∀ j, j < N → t_K B j ≠ 0) → t_K B N = 0 → bm_gi w' m 2 = 0 → bm_gi w' m 0 = 0 → bm_gi w' m 37 = bm_gi w m 37 → ans_m m B N (y_cmp (t_K B) (t_V B)) x w' → Φ (.inl (some (bm_i x))) w') : bm_Call bm_pg (d + 1269) y_X12_compile [bm_r (some m)] w Φ := by
  have S := h.1
  refine vc_X12_compile ?_
  have S0 : sh_Md m (bm_si w m 0 0) := S
  simp only [bm_c0_v, bm_c1_v, bm_c2_v, bm_c3_v, bm_c4_v, bm_c5_v, bm_u_some, decide_eq_true_eq, true_and, and_true, and_self, Bool.not_eq_true, Bool.not_eq_true', decide_eq_false_iff_not, if_true, if_false, ite_true, ite_false, eq_self, S.1, S0.1, mp_forget (d := d + 1267) S0.1, bm_c0_v]
  have F1 : q_fr (fun a => a = m) w (bm_si (bm_si (bm_si (bm_si (bm_si (bm_si w m 0 0) m 18 0) m 28 0) m 27 0) m 11 0) m 3 (-1)) := ((((((q_fr.rf (A := fun a => a = m)).si rfl).si rfl).si rfl).si rfl).si rfl).si rfl
  have g : ∀ j, bm_gi (bm_si (bm_si (bm_si (bm_si (bm_si (bm_si w m 0 0) m 18 0) m 28 0) m 27 0) m 11 0) m 3 (-1)) m j = if j = 3 then -1 else if j = 11 ∨ j = 27 ∨ j = 28 ∨ j = 18 ∨ j = 0 then 0 else bm_gi w m j := fun j => by
    simp only [bm_si_gi]
    grind
  have gl1 : ∀ j, bm_gl (bm_si (bm_si (bm_si (bm_si (bm_si (bm_si w m 0 0) m 18 0) m 28 0) m 27 0) m 11 0) m 3 (-1)) m j = bm_gl w m j := fun _ => rfl
  have S1 : sh_Md m (bm_si (bm_si (bm_si (bm_si (bm_si w m 0 0) m 18 0) m 28 0) m 27 0) m 11 0) := S
  simp only [S1.1, S.1]
  generalize bm_si (bm_si (bm_si (bm_si (bm_si (bm_si w m 0 0) m 18 0) m 28 0) m 27 0) m 11 0) m 3 (-1) = w1 at F1 g gl1 ⊢
  obtain ⟨b1, b2, b3, b4, b5, b6⟩ := h
  have B1 : md_B m B w1 := by
    have g2 : bm_gi w1 m 2 = bm_gi w m 2 := by rw [g]; simp
    refine ⟨b1.fr F1, by rw [g2]; exact b2, by rw [g2]; exact b3, fun k hk => ?_, by rw [g2]; exact b5, by rw [g2]; exact b6⟩
    have := b4 k hk
    unfold md_at at this ⊢
    rw [g2, F1.gi (by omega)]
    exact this
  refine ⟨trivial, B1.1.1, mp_scan (d := d + 1260) B1 (fun w2 N F2 hN hk hk0 ht => ?_)⟩
  rw [bm_c0_v]
  have Z2 : md_Z m B N w2 := ⟨md_B.fr F2 (by omega) (by omega) B1, ht, hN, hk, hk0⟩
  have Z3 := Z2.at9 (v := ((0 : Nat) : Int))
  have lenN : (N : Int) ≤ bm_gi w m 2 := by
    have := t_nx_rng b2 b5 N
    have := this.2.2 hk
    omega
  have g2 : ∀ j, bm_gi w2 m j = bm_gi w1 m j := fun j => F2.gi (by omega)
  have G1 : q_gw (fun a => m ≤ a ∧ a ≤ m + 31) (fun _ => False) 0 0 w w1 := q_gw.of (F1.mo (fun a z => by omega))
  have G2 : mG m 0 w1 w2 := mG.of F2 (fun a z => by omega) (fun k _ => g2 k)
  have g0 : bm_gi w1 m 0 = 0 := by rw [g]; simp
  have g37 : bm_gi w1 m 37 = bm_gi w m 37 := by rw [g]; simp
  have kt3 := Z3.1.1.1
  have S30 : fS m (bm_si w2 m 9 ((0 : Nat) : Int)) 0 (bm_si w2 m 9 ((0 : Nat) : Int)) := ⟨q_fr.rf, q_gi_eq, fun _ _ _ => rfl, fun _ => rfl⟩
  refine ⟨Z2.1.1.1, kt3, ms_program (d := d) Z3 S30 (fun q w4 e4 l4 h4 => ?_) (fun q w4 e4 l4 h4 => ?_)⟩
  · have Z4 := h4.z Z3
    rw [bm_c1_v, if_pos (by decide)]
    refine ⟨Z4.1.1.1, Z4.1.1.1, ?_⟩
    rw [h4.2.1]
    refine mm_wrong (d := d + 1267) Z4 l4 (fun a => ?_)
    rw [bm_c1_v]
    have S5 : sh_Md m (bm_si w4 m 3 (t_P B q)) := Z4.1.1
    refine mp_43e (d := d + 1267) S5 (by decide) (fun w6 F6 x3 x0 x2 x18 x28 x27 => ?_)
    have G6 : mG m 0 w1 w6 := ((G2.tr (mG.rf.si (a := m) (k := 9) (v := ((0 : Nat) : Int)) (by omega) (by omega))).tr ((mG.of h4.1 (fun a z => by omega) (fun k hk => h4.2.2.1 k (by omega) (by omega))).si (a := m) (k := 3) (v := t_P B q) (by omega) (by omega))).tr (mG.of F6 (fun a z => by omega) x0)
    have y : y_cmp (t_K B) (t_V B) = .inl (1, q) := by unfold y_cmp; rw [e4]; rfl
    refine hq 1 N w6 ((G1.tr G6.1).mo (fun _ z => z) (fun _ z => z) (by omega) (by omega)) lenN hN hk hk0 x2 ((G6.2 0 (Or.inl rfl)).trans g0) ((G6.2 37 (Or.inr rfl)).trans g37) ?_
    · rw [y]
      exact ⟨rfl, (by decide : (1 : Int) ≠ 0), x3.trans a, x18, x28, x27⟩
  · have Z4 := h4.z Z3
    have y : y_cmp (t_K B) (t_V B) = y_its (t_K B) (t_V B) f_T ([], []) 0 := by unfold y_cmp; rw [e4]; rfl
    have en := f_its_end (N := N) hk0 hN f_T 0 q (Nat.zero_le _) e4
    have qN : q = N := by
      rcases Nat.lt_or_ge q N with z | z
      · exact absurd en.1 (hk q z)
      · omega
    subst qN
    rw [bm_c1_v, if_neg (by decide)]
    refine vb_X12_compile_43 ?_
    have Z5 := Z4.at9 (v := ((0 : Nat) : Int))
    have g5 : ∀ j, j ≠ 9 → j ≠ 10 → bm_gi (bm_si w4 m 9 ((0 : Nat) : Int)) m j = bm_gi w1 m j := fun j u v => by
      rw [q_gi_nk u, h4.2.2.1 j u v, q_gi_nk u, g2]
    have u9 : bm_gi (bm_si w4 m 9 ((0 : Nat) : Int)) m 9 = ((0 : Nat) : Int) := q_gi_eq
    have G5 : mG m 0 w1 (bm_si w4 m 9 ((0 : Nat) : Int)) := ((G2.tr (mG.rf.si (a := m) (k := 9) (v := ((0 : Nat) : Int)) (by omega) (by omega))).tr (mG.of h4.1 (fun a z => by omega) (fun k hk => h4.2.2.1 k (by omega) (by omega)))).si (by omega) (by omega)
    rw [if_neg (by decide)]
    refine ⟨Z4.1.1.1, Z5.1.1.1, ?_⟩
    have e0 : (bm_si w4 m 9 (0 : Int)) = bm_si w4 m 9 ((0 : Nat) : Int) := rfl
    rw [e0]
    generalize bm_si w4 m 9 ((0 : Nat) : Int) = w5 at Z5 g5 u9 G5 ⊢
    have ml0 : ml m q B ([], []) 0 w5 := by
      refine ⟨Z5, by have := G1.1.1; have := G5.1.1.1; omega, ⟨?_, by simp, fun i hi => (by cases hi), fun i j _ hj => (by cases hj)⟩, ⟨?_, by simp, fun i hi => (by cases hi), fun i j _ hj => (by cases hj)⟩, ?_, ⟨0, ?_, Nat.le_refl _⟩, ?_⟩
      · rw [g5 18 (by decide) (by decide), g]; simp
      · rw [g5 28 (by decide) (by decide), g]; simp
      · rw [g5 27 (by decide) (by decide), g]; simp [y_I, t_n]
      · rw [g5 11 (by decide) (by decide), g]; simp
      · simp [y_I, t_n]
    refine mp_meaning (d := d + 1) ml0 u9 e4 hk0 (fun x w6 G6 a => ?_)
    rw [bm_c1_v]
    have S6 : sh_Md m w6 := Z5.1.1.gw G6.1 ml0.2.1 (fun z => z)
    have G := (G5.tr G6).mo (show 0 + q ≤ q by omega)
    have GG := (G1.tr G.1).mo (fun _ z => z) (fun _ z => z) (show 0 + q ≤ q by omega) (show 0 + 3 * q ≤ 3 * q by omega)
    cases hR : y_its (t_K B) (t_V B) f_T ([], []) 0 with
    | inl er =>
      rw [hR] at a
      obtain ⟨c1, c2, c3⟩ := a
      have S7 : sh_Md m (bm_si w6 m 2 0) := S6
      simp only [bm_c0_v, bm_c1_v, bm_c2_v, bm_c3_v, bm_c4_v, bm_c5_v, bm_u_some, decide_eq_true_eq, true_and, and_true, and_self, Bool.not_eq_true, Bool.not_eq_true', decide_eq_false_iff_not, if_true, if_false, ite_true, ite_false, eq_self, S6.1, mp_forget S7.1, bm_c0_v]
      rw [if_neg (by omega)]
      have g6 : ∀ j, bm_gi (bm_si (bm_si (bm_si (bm_si (bm_si w6 m 2 0) m 18 0) m 28 0) m 27 0) m 11 0) m j = if j = 11 ∨ j = 27 ∨ j = 28 ∨ j = 18 ∨ j = 2 then 0 else bm_gi w6 m j := fun j => by
        simp only [bm_si_gi]
        grind
      refine ⟨S7.1, hq x q _ (((((GG.si (Or.inl (by omega))).si (Or.inl (by omega))).si (Or.inl (by omega))).si (Or.inl (by omega))).si (Or.inl (by omega))) lenN hN hk hk0 (by rw [g6]; simp) (by rw [g6]; simp; rw [G.2 0 (Or.inl rfl), g0]) (by rw [g6]; simp; rw [G.2 37 (Or.inr rfl), g37]) ?_⟩
      rw [y, hR]
      refine ⟨c1, c2, ?_, ?_, ?_, ?_⟩ <;> rw [g6] <;> simp
      exact c3
    | inr pr =>
      rw [hR] at a
      obtain ⟨c1, c3, c4, c5⟩ := a
      rw [if_pos (by simpa using c1)]
      obtain ⟨l1, l2, l3, l4', l5, l6, l7⟩ := c4
      have F7 : q_fr (fun a => a = m) w6 (bm_si w6 m 2 0) := q_fr.rf.si rfl
      refine ⟨S6.1, hq x q _ (GG.si (Or.inl (by omega))) lenN hN hk hk0 q_gi_eq ?_ ?_ ?_⟩
      · rw [q_gi_nk (by decide), G.2 0 (Or.inl rfl), g0]
      · rw [q_gi_nk (by decide), G.2 37 (Or.inr rfl), g37]
      · rw [y, hR]
        refine ⟨c1, ?_, l3.mv (mfr.of F7 (fun a u v => by omega) (by rw [q_gi_nk (by decide)]; exact Int.le_refl _)) (q_gi_nk (by decide)), l4'.mv (mtr.of F7 (fun a u v => by omega) (q_gi_nk (by decide))) rfl (Nat.le_refl _) (fun _ _ => rfl), (q_gi_nk (by decide)).trans l5, c5, l7⟩
        rw [q_gi_nk (by decide), c3, g5 3 (by decide) (by decide), g]
        simp
end MN
