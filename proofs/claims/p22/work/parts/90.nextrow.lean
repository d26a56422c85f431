/-! ===== a new row of a table ===== -/
theorem rw_clr_fr {w0 w : bm_W} {r : Nat} {A : Nat → Prop} (h : q_fr A w0 w) (h0 : A r) (h2 : A (r + 2)) (h3 : A (r + 3)) : q_fr A w0 (rw_clr w r) := (((rg_clr_fr h h2 h3).si h0).sq h0).si h0
theorem rw_clr_v {w : bm_W} {r : Nat} : bm_gi (rw_clr w r) r 1 = 14 ∧ bm_gl (rw_clr w r) r 2 = 0 ∧ bm_gi (rw_clr w r) r 4 = 0 ∧ ∀ c, c < 3 → bm_gi (rw_clr w r) (r + 2) c = 0 ∧ bm_gi (rw_clr w r) (r + 3) c = 0 := by
  unfold rw_clr
  refine ⟨?_, ?_, q_gi_eq, fun i hi => ⟨?_, ?_⟩⟩
  · rw [q_gi_nk (by decide)]
    exact q_gi_eq
  · exact q_gl_eq
  · rw [q_gi_ne (by omega)]
    show bm_gi (bm_si (rg_clr w (r + 1)) r 1 14) (r + 2) i = 0
    rw [q_gi_ne (by omega)]
    have := rg_clr_lo (w := w) (r := r + 1) (j := (i : Int))
    unfold rg_lo at this
    rw [if_pos ⟨by omega, by omega⟩, Int.toNat_natCast] at this
    exact this
  · rw [q_gi_ne (by omega)]
    show bm_gi (bm_si (rg_clr w (r + 1)) r 1 14) (r + 3) i = 0
    rw [q_gi_ne (by omega)]
    have := rg_clr_hi (w := w) (r := r + 1) (j := (i : Int))
    unfold rg_hi at this
    rw [if_pos ⟨by omega, by omega⟩, Int.toNat_natCast] at this
    exact this
theorem rw_n_set {g g' : Nat → Option Nat} {n : Nat} (h : ∀ j, j ≠ n → g' j = g j) (h0 : g n = none) (h1 : g' n ≠ none) : ∀ m, rw_n g' m + (if n < m then 1 else 0) = rw_n g m
  | 0 => by simp [rw_n]
  | m + 1 => by
    have ih := rw_n_set h h0 h1 m
    unfold rw_n
    by_cases c : m = n
    · subst c
      grind
    · rw [h m c]
      grind
theorem rm_set {t n T : Nat} {i : Int} {w w' : bm_W} (hT : T = pg_tb (t + 4) i) (hn : n < 12) (h0 : bm_gr w (T + 1) n = none) (h1 : bm_gr w' (T + 1) n ≠ none) (hj : ∀ j, j ≠ n → bm_gr w' (T + 1) j = bm_gr w (T + 1) j) (hA : ∀ a, t ≤ a → a ≤ t + 111 → a ≠ T + 1 → ∀ j, bm_gr w' a j = bm_gr w a j) : rm t w' + 1 = rm t w := by
  have s := rw_n_set hj h0 h1 12
  rw [if_pos hn] at s
  have e : ∀ a, t ≤ a → a ≤ t + 111 → a ≠ T + 1 → rw_n (bm_gr w' a) 12 = rw_n (bm_gr w a) 12 := fun a x y z => by rw [show bm_gr w' a = bm_gr w a from funext (hA a x y z)]
  have rg := (pg_tb_rng (t + 4) i).2.2
  rw [← hT] at rg
  have x0 := e (t + 16) (by omega) (by omega)
  have x1 := e (t + 71) (by omega) (by omega)
  have x2 := e (t + 78) (by omega) (by omega)
  have x3 := e (t + 85) (by omega) (by omega)
  have x4 := e (t + 92) (by omega) (by omega)
  have x5 := e (t + 99) (by omega) (by omega)
  have x6 := e (t + 106) (by omega) (by omega)
  have cs : T + 1 = t + 16 ∨ T + 1 = t + 71 ∨ T + 1 = t + 78 ∨ T + 1 = t + 85 ∨ T + 1 = t + 92 ∨ T + 1 = t + 99 ∨ T + 1 = t + 106 := by
    rcases rg with h | ⟨j, h1, h2⟩ <;> omega
  unfold rm
  rcases cs with h | h | h | h | h | h | h
  all_goals (rw [h] at s x0 x1 x2 x3 x4 x5 x6)
  · rw [x1 (by omega), x2 (by omega), x3 (by omega), x4 (by omega), x5 (by omega), x6 (by omega)]; omega
  · rw [x0 (by omega), x2 (by omega), x3 (by omega), x4 (by omega), x5 (by omega), x6 (by omega)]; omega
  · rw [x0 (by omega), x1 (by omega), x3 (by omega), x4 (by omega), x5 (by omega), x6 (by omega)]; omega
  · rw [x0 (by omega), x1 (by omega), x2 (by omega), x4 (by omega), x5 (by omega), x6 (by omega)]; omega
  · rw [x0 (by omega), x1 (by omega), x2 (by omega), x3 (by omega), x5 (by omega), x6 (by omega)]; omega
  · rw [x0 (by omega), x1 (by omega), x2 (by omega), x3 (by omega), x4 (by omega), x6 (by omega)]; omega
  · rw [x0 (by omega), x1 (by omega), x2 (by omega), x3 (by omega), x4 (by omega), x5 (by omega)]; omega
/-- behind nextRow: r is the row -/
def nrw (t T : Nat) (n : Int) (w : bm_W) (r : Nat) (w' : bm_W) : Prop :=
  kf t w w' ∧ (∃ c s, q_gw (fun a => r ≤ a ∧ a ≤ r + 3) (fun a => a = T + 1) c s w w') ∧ rw_ok t w' ∧ sh_Tb T w' ∧ sh_Rw r w' ∧ (r = T + 2 ∨ t + 125 ≤ r) ∧ r + 4 ≤ bm_sz w' ∧
  (0 ≤ n → n < 12 → bm_gr w' (T + 1) n.toNat = some r ∧ t + 125 ≤ r) ∧ (∀ j : Nat, (j : Int) ≠ n → bm_gr w' (T + 1) j = bm_gr w (T + 1) j) ∧ (∀ T' j r', rw_at t w' T' j r' → (T' = T ∧ (j : Int) = n) ∨ r' + 4 ≤ r ∨ r + 4 ≤ r') ∧
  (bm_gi w' r 1 = 14 ∧ bm_gl w' r 2 = 0 ∧ bm_gi w' r 4 = 0 ∧ ∀ c, c < 3 → bm_gi w' (r + 2) c = 0 ∧ bm_gi w' (r + 3) c = 0)
/-- a row that is there is cleared -/
theorem nrw_clr {t T r : Nat} {n : Int} {w w1 : bm_W} (hk : kf t w w1) (hg : ∃ c s, q_gw (fun a => r ≤ a ∧ a ≤ r + 3) (fun a => a = T + 1) c s w w1) (ho : rw_ok t w1) (hT : sh_Tb T w1) (hR : sh_Rw r w1) (h1 : r = T + 2 ∨ t + 125 ≤ r) (hTr : t + 15 ≤ T ∧ T ≤ t + 105) (h2 : r + 4 ≤ bm_sz w1) (h3 : 0 ≤ n → n < 12 → bm_gr w1 (T + 1) n.toNat = some r ∧ t + 125 ≤ r) (h4 : ∀ j : Nat, (j : Int) ≠ n → bm_gr w1 (T + 1) j = bm_gr w (T + 1) j) (h5 : ∀ T' j r', rw_at t w1 T' j r' → (T' = T ∧ (j : Int) = n) ∨ r' + 4 ≤ r ∨ r + 4 ≤ r') : nrw t T n w r (rw_clr w1 r) := by
  have F : q_fr (fun a => r ≤ a ∧ a ≤ r + 3) w1 (rw_clr w1 r) := rw_clr_fr q_fr.rf ⟨Nat.le_refl _, by omega⟩ ⟨by omega, by omega⟩ ⟨by omega, by omega⟩
  obtain ⟨c, s, hg⟩ := hg
  refine ⟨hk.tr (kf.of F (fun a z => ?_)), ⟨c, s, hg.fr F⟩, ho.fr F, hT.fr F, hR.fr F, h1, by rw [F.sz]; exact h2, fun a b => ?_, fun j hj => ?_, fun T' j r' a => h5 T' j r' ?_, rw_clr_v⟩
  · unfold kA
    omega
  · rw [F.gr]; exact h3 a b
  · rw [F.gr]; exact h4 j hj
  · obtain ⟨a1, a2, a3⟩ := a
    exact ⟨a1, a2, by rw [F.gr] at a3; exact a3⟩
section NR
variable {d t T : Nat} {i : Int} {w : bm_W} {Φ : bm_Rt → bm_W → Prop}
/-- the world with a new row -/
def rw_new (w : bm_W) (T n : Nat) : bm_W := bm_sr (bm_sr (bm_sr (bm_nw (bm_sr (bm_nw (bm_nw (bm_nw w 5 0 5) 4 0 2) 21 3 3) (bm_sz w + 1) 0 (some (bm_sz w + 2))) 21 3 3) (bm_sz w + 1) 1 (some (bm_sz w + 3))) (bm_sz w) 0 (some (bm_sz w + 1))) (T + 1) n (some (bm_sz w))
theorem rw_new_gw {n : Nat} (hT : T + 1 < bm_sz w) : q_gw (fun _ => False) (fun a => a = T + 1) 4 13 w (rw_new w T n) := by
  unfold rw_new
  have a : q_gw (fun _ => False) (fun a => a = T + 1) 4 13 w (bm_nw (bm_sr (bm_nw (bm_nw (bm_nw w 5 0 5) 4 0 2) 21 3 3) (bm_sz w + 1) 0 (some (bm_sz w + 2))) 21 3 3) := ((((q_gw.rf.nw).nw).nw).sr (Or.inr (by omega))).nw
  exact ((a.sr (Or.inr (by omega))).sr (Or.inr (Nat.le_refl _))).sr (Or.inl rfl)
theorem rw_new_sh {n : Nat} (hT : T + 1 < bm_sz w) : sh_Rw (bm_sz w) (rw_new w T n) ∧ bm_sz (rw_new w T n) = bm_sz w + 4 ∧ bm_sl (rw_new w T n) = bm_sl w + 13 ∧ bm_gr (rw_new w T n) (T + 1) n = some (bm_sz w) ∧ ∀ j, j ≠ n → bm_gr (rw_new w T n) (T + 1) j = bm_gr w (T + 1) j := by
  unfold rw_new
  have n1 : ¬ T + 1 = bm_sz w := by omega
  have n2 : ¬ T + 1 = bm_sz w + 1 := by omega
  have n3 : ¬ T + 1 = bm_sz w + 1 + 1 := by omega
  have n4 : ¬ T + 1 = bm_sz w + 1 + 1 + 1 := by omega
  have m1 : ¬ bm_sz w = T + 1 := by omega
  have m2 : ¬ bm_sz w + 1 = T + 1 := by omega
  refine ⟨⟨?_, ?_, ?_, ?_, ?_, ?_, ?_, ?_, ?_⟩, ?_, ?_, ?_, fun j hj => ?_⟩
  all_goals simp only [bm_nw_kt, bm_nw_kn, bm_nw_sz, bm_nw_sl, bm_nw_gi, bm_nw_gl, bm_nw_gr, bm_si_kt, bm_si_kn, bm_si_sz, bm_si_sl, bm_si_gi, bm_si_gl, bm_si_gr, bm_sq_kt, bm_sq_kn, bm_sq_sz, bm_sq_sl, bm_sq_gi, bm_sq_gl, bm_sq_gr, bm_sr_kt, bm_sr_kn, bm_sr_sz, bm_sr_sl, bm_sr_gi, bm_sr_gl, bm_sr_gr]
  all_goals grind
theorem sp_nextRow (ht : T = pg_tb (t + 4) i) (h : sh_Tb T w) (ho : rw_ok t w) (hq : ∀ r w', nrw t T (bm_gi w T 5) w r w' → Φ (.inl (some (bm_r (some r)))) w') : bm_Call bm_pg (d + 4) y_X7_nextRow [bm_r (some T)] w Φ := by
  have rg := pg_tb_rng (t + 4) i
  rw [← ht] at rg
  have hTr : t + 15 ≤ T ∧ T ≤ t + 105 := ⟨by omega, by omega⟩
  clear rg
  have os := ho.1
  -- the end, from a world where the row stands
  have fin : ∀ w1, sh_Tb T w1 → bm_gi w1 T 5 = bm_gi w T 5 → nrw t T (bm_gi w T 5) w (tb_row w1 T (bm_gi w T 5)) (rw_clr w1 (tb_row w1 T (bm_gi w T 5))) → ((bm_kt w1 T = 7) ∧ (bm_kt w1 T = 7) ∧ bm_Call bm_pg (d + 3) y_X7_rowAt [bm_r (some T), bm_i (bm_gi w1 T 5)] w1 (fun r1 w1 =>
      bm_c3 (fun x1 => (bm_kt w1 x1 = 5) ∧ bm_Call bm_pg (d + 3) y_X5_clear [bm_r (some x1)] w1 (fun r2 w2 =>
        bm_c0 (Φ (.inl (some (bm_r (some x1)))) w2) (fun E => Φ (.inr E) w2) r2)) (fun E => Φ (.inr E) w1) r1)) := by
    intro w1 h1 e5 hn
    have hr := h1.row (bm_gi w T 5)
    simp only [bm_c0_v, bm_c1_v, bm_c2_v, bm_c3_v, bm_c4_v, bm_c5_v, bm_u_some, decide_eq_true_eq, true_and, and_true, and_self, Bool.not_eq_true, Bool.not_eq_true', decide_eq_false_iff_not, if_true, if_false, ite_true, ite_false, eq_self, h1.1, sp_rowAt h1, e5, hr.1, sp_wclear hr]
    exact hq _ _ hn
  have spare : ¬ (0 ≤ bm_gi w T 5 ∧ bm_gi w T 5 < 12) → nrw t T (bm_gi w T 5) w (tb_row w T (bm_gi w T 5)) (rw_clr w (tb_row w T (bm_gi w T 5))) := fun c => by
    have e : tb_row w T (bm_gi w T 5) = T + 2 := by unfold tb_row; rw [if_neg c]
    have hr := h.row (bm_gi w T 5)
    rw [e] at hr ⊢
    exact nrw_clr kf.rf ⟨0, 0, q_gw.rf⟩ ho h hr (Or.inl rfl) hTr (by omega) (fun a b => absurd ⟨a, b⟩ c) (fun _ _ => rfl) (fun T' j r' a => Or.inr (Or.inr (by have := (ho.2.1 T' j r' a).1; omega)))
  refine vc_X7_nextRow ?_
  by_cases c0 : bm_gi w T 5 < 0
  · simp only [bm_c0_v, bm_c1_v, bm_c2_v, bm_c3_v, bm_c4_v, bm_c5_v, bm_u_some, decide_eq_true_eq, true_and, and_true, and_self, Bool.not_eq_true, Bool.not_eq_true', decide_eq_false_iff_not, if_true, if_false, ite_true, ite_false, eq_self, h.1, h.2.1, h.2.2.1, h.2.2.2.1, h.2.2.2.2.1, h.2.2.2.2.2.1, h.2.2.2.2.2.2.1, h.2.2.2.2.2.2.2.1, h.2.2.2.2.2.2.2.2.1, h.2.2.2.2.2.2.2.2.2, c0]
    have := fin w h rfl (spare (by omega))
    simp only [bm_c0_v, bm_c1_v, bm_c2_v, bm_c3_v, bm_c4_v, bm_c5_v, bm_u_some, decide_eq_true_eq, true_and, and_true, and_self, Bool.not_eq_true, Bool.not_eq_true', decide_eq_false_iff_not, if_true, if_false, ite_true, ite_false, eq_self, h.1] at this
    exact this
  · by_cases c12 : 12 ≤ bm_gi w T 5
    · simp only [bm_c0_v, bm_c1_v, bm_c2_v, bm_c3_v, bm_c4_v, bm_c5_v, bm_u_some, decide_eq_true_eq, true_and, and_true, and_self, Bool.not_eq_true, Bool.not_eq_true', decide_eq_false_iff_not, if_true, if_false, ite_true, ite_false, eq_self, h.1, h.2.1, h.2.2.1, h.2.2.2.1, h.2.2.2.2.1, h.2.2.2.2.2.1, h.2.2.2.2.2.2.1, h.2.2.2.2.2.2.2.1, h.2.2.2.2.2.2.2.2.1, h.2.2.2.2.2.2.2.2.2, c0]
      refine ⟨by decide, ?_⟩
      rw [if_pos (by omega)]
      have := fin w h rfl (spare (by omega))
      simp only [bm_c0_v, bm_c1_v, bm_c2_v, bm_c3_v, bm_c4_v, bm_c5_v, bm_u_some, decide_eq_true_eq, true_and, and_true, and_self, Bool.not_eq_true, Bool.not_eq_true', decide_eq_false_iff_not, if_true, if_false, ite_true, ite_false, eq_self, h.1] at this
      exact this
    · have c : 0 ≤ bm_gi w T 5 ∧ bm_gi w T 5 < 12 := ⟨by omega, by omega⟩
      have en : ((bm_gi w T 5).toNat : Int) = bm_gi w T 5 := by omega
      simp only [bm_c0_v, bm_c1_v, bm_c2_v, bm_c3_v, bm_c4_v, bm_c5_v, bm_u_some, decide_eq_true_eq, true_and, and_true, and_self, Bool.not_eq_true, Bool.not_eq_true', decide_eq_false_iff_not, if_true, if_false, ite_true, ite_false, eq_self, h.1, h.2.1, h.2.2.1, h.2.2.2.1, h.2.2.2.2.1, h.2.2.2.2.2.1, h.2.2.2.2.2.2.1, h.2.2.2.2.2.2.2.1, h.2.2.2.2.2.2.2.2.1, h.2.2.2.2.2.2.2.2.2, c0, bm_in]
      refine ⟨by decide, ?_⟩
      rw [if_neg (by omega)]
      refine ⟨by omega, ?_⟩
      cases e : bm_gr w (T + 1) (bm_gi w T 5).toNat with
      | some r =>
        simp only [Option.isSome_some, if_true]
        have er : tb_row w T (bm_gi w T 5) = r := by unfold tb_row; rw [if_pos c, e]; rfl
        have at0 : rw_at t w T (bm_gi w T 5).toNat r := ⟨⟨i, ht⟩, by omega, e⟩
        have o1 := ho.2.1 _ _ _ at0
        have hr := h.row (bm_gi w T 5)
        have := fin w h rfl (by
          rw [er] at hr ⊢
          refine nrw_clr kf.rf ⟨0, 0, q_gw.rf⟩ ho h hr (Or.inr o1.1) hTr o1.2 (fun _ _ => ⟨e, o1.1⟩) (fun _ _ => rfl) (fun T' j r' a => ?_)
          rcases ho.2.2 _ _ _ _ _ _ at0 a with z | z | z
          · exact Or.inl ⟨z.1.symm, by omega⟩
          · exact Or.inr (Or.inr z)
          · exact Or.inr (Or.inl z))
        simp only [bm_c0_v, bm_c1_v, bm_c2_v, bm_c3_v, bm_c4_v, bm_c5_v, bm_u_some, decide_eq_true_eq, true_and, and_true, and_self, Bool.not_eq_true, Bool.not_eq_true', decide_eq_false_iff_not, if_true, if_false, ite_true, ite_false, eq_self, h.1] at this
        exact this
      | none =>
        simp only [Option.isSome_none, Bool.false_eq_true, if_false]
        have hsz : T + 1 < bm_sz w := by omega
        have G := rw_new_gw (n := (bm_gi w T 5).toNat) hsz
        obtain ⟨s1, s2, s3, s4, s5⟩ := rw_new_sh (n := (bm_gi w T 5).toNat) hsz
        have T' : sh_Tb T (rw_new w T (bm_gi w T 5).toNat) := by
          obtain ⟨h1, h2, h3, h4, h5, h6, h7, h8, h9, h10⟩ := h
          have g : ∀ j, bm_gr (rw_new w T (bm_gi w T 5).toNat) T j = bm_gr w T j := fun j => G.gr (by omega) (by omega)
          refine ⟨(G.kt (by omega)).trans h1, (g 0).trans h2, (g 1).trans h3, (g 2).trans h4, (G.kt (by omega)).trans h5, (G.kn (by omega)).trans h6, (G.kt (by omega)).trans h7, (G.kn (by omega)).trans h8, h9.gw G (by omega) (by omega) (by omega), fun j r hj hr => ?_⟩
          by_cases z : j = (bm_gi w T 5).toNat
          · subst z
            rw [s4] at hr
            cases hr
            exact s1
          · rw [s5 j z] at hr
            have := ho.2.1 T j r ⟨⟨i, ht⟩, hj, hr⟩
            exact (h10 j r hj hr).gw G (by omega) (by omega) (by omega)
        have ro : ∀ T2 j r, rw_at t (rw_new w T (bm_gi w T 5).toNat) T2 j r → (T2 = T ∧ j = (bm_gi w T 5).toNat ∧ r = bm_sz w) ∨ rw_at t w T2 j r := fun T2 j r a => by
          obtain ⟨⟨i2, a1⟩, a2, a3⟩ := a
          have rg2 := pg_tb_rng (t + 4) i2
          rw [← a1] at rg2
          have rg2' : T2 ≤ t + 105 := by omega
          clear rg2
          by_cases z : T2 = T
          · subst z
            by_cases z2 : j = (bm_gi w T2 5).toNat
            · subst z2
              rw [s4] at a3
              cases a3
              exact Or.inl ⟨rfl, rfl, rfl⟩
            · rw [s5 j z2] at a3
              exact Or.inr ⟨⟨i2, a1⟩, a2, a3⟩
          · rw [G.gr (by omega) (by omega)] at a3
            exact Or.inr ⟨⟨i2, a1⟩, a2, a3⟩
        have O' : rw_ok t (rw_new w T (bm_gi w T 5).toNat) := by
          refine ⟨by omega, fun T2 j r a => ?_, fun T2 j r T3 j3 r3 a b => ?_⟩
          · rcases ro _ _ _ a with ⟨-, -, z⟩ | z
            · omega
            · have := ho.2.1 _ _ _ z; omega
          · rcases ro _ _ _ a with ⟨z1, z2, z3⟩ | z
            · rcases ro _ _ _ b with ⟨y1, y2, y3⟩ | y
              · exact Or.inl ⟨z1.trans y1.symm, z2.trans y2.symm⟩
              · have := ho.2.1 _ _ _ y
                exact Or.inr (Or.inr (by omega))
            · rcases ro _ _ _ b with ⟨y1, y2, y3⟩ | y
              · have := ho.2.1 _ _ _ z
                exact Or.inr (Or.inl (by omega))
              · exact ho.2.2 _ _ _ _ _ _ z y
        have er : tb_row (rw_new w T (bm_gi w T 5).toNat) T (bm_gi w T 5) = bm_sz w := by unfold tb_row; rw [if_pos c, s4]; rfl
        have K' : kf t w (rw_new w T (bm_gi w T 5).toNat) := by
          have rm1 := rm_set (t := t) (w := w) (w' := rw_new w T (bm_gi w T 5).toNat) ht (n := (bm_gi w T 5).toNat) (by omega) e (by rw [s4]; simp) s5 (fun a x y z j => G.gr (by omega) z)
          refine ⟨⟨4, 13, G.mo (fun _ z => z.elim) (fun a z => Or.inr (Or.inl ?_)) (Nat.le_refl _) (Nat.le_refl _)⟩, by omega, by omega⟩
          rw [z]
          omega
        have := fin (rw_new w T (bm_gi w T 5).toNat) T' (G.gi (by omega) (fun z => z)) (by
          rw [er]
          refine nrw_clr K' ⟨4, 13, G.mo (fun _ z => z.elim) (fun _ z => z) (Nat.le_refl _) (Nat.le_refl _)⟩ O' T' s1 (Or.inr os) hTr (by omega) (fun _ _ => ⟨s4, os⟩) (fun j hj => s5 j (by omega)) (fun T2 j r a => ?_)
          rcases ro _ _ _ a with ⟨z1, z2, z3⟩ | z
          · exact Or.inl ⟨z1, by omega⟩
          · have := ho.2.1 _ _ _ z
            exact Or.inr (Or.inl this.2))
        have hk25 : bm_kt (rw_new w T (bm_gi w T 5).toNat) (T + 1) = 25 := T'.2.2.2.2.1
        refine vc_X5_init ⟨rfl, trivial, vc_X4_init ⟨rfl, by decide, ?_, by decide, ?_, vb_X4_init_18 ?_⟩⟩
        · simp only [bm_nw_kt, bm_nw_kn, bm_nw_sz, bm_nw_sl, bm_nw_gi, bm_nw_gl, bm_nw_gr, bm_si_kt, bm_si_kn, bm_si_sz, bm_si_sl, bm_si_gi, bm_si_gl, bm_si_gr, bm_sq_kt, bm_sq_kn, bm_sq_sz, bm_sq_sl, bm_sq_gi, bm_sq_gl, bm_sq_gr, bm_sr_kt, bm_sr_kn, bm_sr_sz, bm_sr_sl, bm_sr_gi, bm_sr_gl, bm_sr_gr]
          grind
        · simp only [bm_nw_kt, bm_nw_kn, bm_nw_sz, bm_nw_sl, bm_nw_gi, bm_nw_gl, bm_nw_gr, bm_si_kt, bm_si_kn, bm_si_sz, bm_si_sl, bm_si_gi, bm_si_gl, bm_si_gr, bm_sq_kt, bm_sq_kn, bm_sq_sz, bm_sq_sl, bm_sq_gi, bm_sq_gl, bm_sq_gr, bm_sr_kt, bm_sr_kn, bm_sr_sz, bm_sr_sl, bm_sr_gi, bm_sr_gl, bm_sr_gr]
          grind
        · rw [bm_c5_v]
          refine ⟨?_, ?_⟩
          · simp only [bm_nw_kt, bm_nw_kn, bm_nw_sz, bm_nw_sl, bm_nw_gi, bm_nw_gl, bm_nw_gr, bm_si_kt, bm_si_kn, bm_si_sz, bm_si_sl, bm_si_gi, bm_si_gl, bm_si_gr, bm_sq_kt, bm_sq_kn, bm_sq_sz, bm_sq_sl, bm_sq_gi, bm_sq_gl, bm_sq_gr, bm_sr_kt, bm_sr_kn, bm_sr_sz, bm_sr_sl, bm_sr_gi, bm_sr_gl, bm_sr_gr]
            grind
          · rw [bm_c5_v]
            have hkn : bm_kn (rw_new w T (bm_gi w T 5).toNat) (T + 1) = 12 := T'.2.2.2.2.2.1
            exact ⟨⟨⟨hk25, c.1, show bm_gi w T 5 < ((bm_kn (rw_new w T (bm_gi w T 5).toNat) (T + 1) : Nat) : Int) by rw [hkn]; exact c.2⟩, s1.1⟩, this⟩
end NR
