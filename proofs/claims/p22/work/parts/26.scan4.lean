/-! ===== scanning, in the class: all tokens ===== -/
def q_fr (A : Nat → Prop) (w w' : bm_W) : Prop := w'.2.2 = w.2.2 ∧ ∀ a j, ¬ A a → bm_gi w' a j = bm_gi w a j ∧ bm_gl w' a j = bm_gl w a j
theorem q_fr.rf {A : Nat → Prop} {w : bm_W} : q_fr A w w := ⟨rfl, fun _ _ _ => ⟨rfl, rfl⟩⟩
theorem q_fr.tr {A : Nat → Prop} {w w' w2 : bm_W} (h : q_fr A w w') (h2 : q_fr A w' w2) : q_fr A w w2 := ⟨h2.1.trans h.1, fun a j q => ⟨((h2.2 a j q).1).trans (h.2 a j q).1, ((h2.2 a j q).2).trans (h.2 a j q).2⟩⟩
theorem q_fr.mo {A A' : Nat → Prop} {w w' : bm_W} (h : q_fr A w w') (hA : ∀ a, A a → A' a) : q_fr A' w w' := ⟨h.1, fun a j q => h.2 a j (fun z => q (hA a z))⟩
theorem q_fr.si {A : Nat → Prop} {w w' : bm_W} {a k : Nat} {v : Int} (h : q_fr A w w') (ha : A a) : q_fr A w (bm_si w' a k v) := ⟨h.1, fun b j q => ⟨(q_gi_ne (fun e => q (by rw [e]; exact ha))).trans (h.2 b j q).1, (h.2 b j q).2⟩⟩
theorem q_fr.sq {A : Nat → Prop} {w w' : bm_W} {a k : Nat} {v : Int} (h : q_fr A w w') (ha : A a) : q_fr A w (bm_sq w' a k v) := ⟨h.1, fun b j q => ⟨(h.2 b j q).1, (q_gl_ne (fun e => q (by rw [e]; exact ha))).trans (h.2 b j q).2⟩⟩
theorem q_fr.kt {A : Nat → Prop} {w w' : bm_W} (h : q_fr A w w') : bm_kt w' = bm_kt w := congrArg (fun x => x.2.1) h.1
theorem q_fr.kn {A : Nat → Prop} {w w' : bm_W} (h : q_fr A w w') : bm_kn w' = bm_kn w := congrArg (fun x => x.2.2.1) h.1
theorem q_fr.gr {A : Nat → Prop} {w w' : bm_W} (h : q_fr A w w') : bm_gr w' = bm_gr w := congrArg (fun x => x.1) h.1
theorem q_fr.sz {A : Nat → Prop} {w w' : bm_W} (h : q_fr A w w') : bm_sz w' = bm_sz w := congrArg (fun x => x.2.2.2.1) h.1
theorem q_fr.sl {A : Nat → Prop} {w w' : bm_W} (h : q_fr A w w') : bm_sl w' = bm_sl w := congrArg (fun x => x.2.2.2.2) h.1
theorem q_fr.gi {A : Nat → Prop} {w w' : bm_W} (h : q_fr A w w') {a j : Nat} (q : ¬ A a) : bm_gi w' a j = bm_gi w a j := (h.2 a j q).1
theorem q_fr.gl {A : Nat → Prop} {w w' : bm_W} (h : q_fr A w w') {a j : Nat} (q : ¬ A a) : bm_gl w' a j = bm_gl w a j := (h.2 a j q).2
theorem sh_Tk.fr {A : Nat → Prop} {t : Nat} {w w' : bm_W} (h : q_fr A w w') (hT : sh_Tk t w) : sh_Tk t w' := by
  unfold sh_Tk
  rw [h.kt, h.kn, h.gr]
  exact hT
theorem sh_Tp.fr {A : Nat → Prop} {t : Nat} {w w' : bm_W} (h : q_fr A w w') (hT : sh_Tp t w) : sh_Tp t w' := by
  unfold sh_Tp
  rw [h.kt, h.kn, h.gr]
  exact hT
theorem sh_TT.fr {A : Nat → Prop} {t tp : Nat} {w w' : bm_W} (h : q_fr A w w') (hA : ¬ A tp) (hT : sh_TT t tp w) : sh_TT t tp w' := by
  refine ⟨sh_Tk.fr h hT.1, ?_, sh_Tp.fr h hT.2.2.1, hT.2.2.2.1, ?_⟩
  · rw [h.gr]; exact hT.2.1
  · rw [h.gi hA]; exact hT.2.2.2.2
theorem tp_at_fr {A : Nat → Prop} {tp : Nat} {w w' : bm_W} (h : q_fr A w w') (hA : ¬ A tp) (hA2 : ¬ A (tp + 1)) : tp_at w' tp = tp_at w tp := by
  funext p
  unfold tp_at tp_b
  rw [h.gi hA, h.gi hA2]
def t_P (B : Int → Int) : Nat → Int
  | 0 => t_skip B 1501 0
  | n + 1 => t_skip B 1501 (t_e B (t_P B n))
def t_nx (B : Int → Int) : Nat → Int
  | 0 => 0
  | n + 1 => t_e B (t_P B n)
theorem t_P_nx (B : Int → Int) (n : Nat) : t_skip B 1501 (t_nx B n) = t_P B n := by cases n <;> rfl
theorem t_wk_n0 (v : Int) : t_wk v ≠ 0 := by unfold t_wk; grind (splits := 40)
theorem t_sk_n0 (b c : Int) : t_sk b c ≠ 0 := by unfold t_sk; grind (splits := 60)
theorem t_k_0 (B : Int → Int) (p : Int) : t_k B p = 0 ↔ B p < 0 := by
  unfold t_k
  have := t_wk_n0 (t_wval B 1501 p 0)
  have := t_sk_n0 (B p) (B (p + 1))
  grind
theorem t_nx_rng {B : Int → Int} {L : Int} (h0 : 0 ≤ L) (hB : ∀ x, L ≤ x → B x = -1) : ∀ n : Nat, 0 ≤ t_nx B n ∧ t_nx B n ≤ L ∧ ((∀ j, j < n → t_k B (t_P B j) ≠ 0) → (n : Int) ≤ t_nx B n)
  | 0 => ⟨Int.le_refl _, h0, fun _ => Int.le_refl _⟩
  | n + 1 => by
    have ih := t_nx_rng h0 hB n
    have h1 := t_skip_rng hB 1501 (t_nx B n) ih.2.1
    rw [t_P_nx] at h1
    have h2 := t_e_rng hB (t_P B n) h1.2
    refine ⟨?_, h2.2.1, fun hj => ?_⟩
    · show 0 ≤ t_e B (t_P B n)
      omega
    · have h3 := ih.2.2 (fun j q => hj j (by omega))
      have h4 : ¬ B (t_P B n) < 0 := fun z => hj n (by omega) ((t_k_0 _ _).mpr z)
      show ((n + 1 : Nat) : Int) ≤ t_e B (t_P B n)
      omega
def tk_tab (w : bm_W) (t : Nat) (B : Int → Int) (n : Nat) : Prop := ∀ j, j < n → bm_gi w (t + 1) j = t_k B (t_P B j) ∧ bm_gi w (t + 2) j = t_P B j ∧ bm_gl w (t + 3) j = t_v B (t_P B j)
theorem sp_scan_loop {d t tp : Nat} {Ψ : bm_Rt → bm_W → Prop} {w0 : bm_W} {B : Int → Int} (h0 : sh_TT t tp w0) (hB : B = tp_at w0 tp) (hq : ∀ (w' : bm_W) (N : Nat), q_fr (fun a => t ≤ a ∧ a ≤ t + 3) w0 w' → N ≤ 1500 → (∀ j, j < N → t_k B (t_P B j) ≠ 0) → t_k B (t_P B N) = 0 → tk_tab w' t B (N + 1) → bm_gi w' t 8 = bm_gi w0 t 8 → bm_gi w' t 9 = bm_gi w0 t 9 → bm_gi w' t 10 = bm_gi w0 t 10 → Ψ (.inl none) w') :
    ∀ (n i : Nat) (w : bm_W), i + n = 1501 → q_fr (fun a => t ≤ a ∧ a ≤ t + 3) w0 w → (∀ j, j < i → t_k B (t_P B j) ≠ 0) → tk_tab w t B i → bm_gi w t 4 = t_nx B i → bm_gi w t 5 ≠ 0 → bm_gi w t 8 = bm_gi w0 t 8 → bm_gi w t 9 = bm_gi w0 t 9 → bm_gi w t 10 = bm_gi w0 t 10 → bk_X9_scan_31 (d + 4) Ψ t (i : Int) w
  | 0, i, w, hi, hf, hk, ht, hn, h5, h8, h9, h10 => by
    have hL := h0.2.2.2.2
    have := (t_nx_rng hL.1 (B := B) (fun x hx => by rw [hB]; exact tp_at_out hx) i).2
    have := this.2 hk
    omega
  | n + 1, i, w, hi, hf, hk, ht, hn, h5, h8, h9, h10 => by
    have hL := h0.2.2.2.2
    have htp := h0.2.2.2.1
    have hR := t_nx_rng hL.1 (B := B) (fun x hx => by rw [hB]; exact tp_at_out hx) i
    have H : sh_TT t tp w := h0.fr hf (by omega)
    have HB : tp_at w tp = B := by rw [hB]; exact tp_at_fr hf (by omega) (by omega)
    have HL : bm_gi w tp 1 = bm_gi w0 tp 1 := hf.gi (by omega)
    refine vb_X9_scan_31 ?_
    simp only [bm_c0_v, bm_c1_v, bm_c2_v, bm_c3_v, bm_c4_v, bm_c5_v, bm_u_some, decide_eq_true_eq, true_and, and_true, and_self, Bool.not_eq_true, Bool.not_eq_true', decide_eq_false_iff_not, if_true, if_false, ite_true, ite_false, eq_self, sp_scanOne (d := d) H (by rw [hn]; omega) (by rw [hn, HL]; omega), H.1.1, H.1.2.1, H.1.2.2.1, H.1.2.2.2.1, H.1.2.2.2.2.1, H.1.2.2.2.2.2.1, H.1.2.2.2.2.2.2.1, H.1.2.2.2.2.2.2.2.1, H.1.2.2.2.2.2.2.2.2.1, H.1.2.2.2.2.2.2.2.2.2, HB, hn, t_P_nx, bm_in]
    have e1 : ¬ ((1501 : Nat) : Int) ≤ (i : Int) := by omega
    simp only [e1, if_false, h5]
    unfold q_tok
    simp only [bm_si_kt, bm_si_kn, bm_si_sz, bm_si_sl, bm_si_gi, bm_si_gl, bm_si_gr, bm_sq_kt, bm_sq_kn, bm_sq_sz, bm_sq_sl, bm_sq_gi, bm_sq_gl, bm_sq_gr, bm_sr_kt, bm_sr_kn, bm_sr_sz, bm_sr_sl, bm_sr_gi, bm_sr_gl, bm_sr_gr, H.1.1, H.1.2.1, H.1.2.2.1, H.1.2.2.2.1, H.1.2.2.2.2.1, H.1.2.2.2.2.2.1, H.1.2.2.2.2.2.2.1, H.1.2.2.2.2.2.2.2.1, H.1.2.2.2.2.2.2.2.2.1, H.1.2.2.2.2.2.2.2.2.2, Int.toNat_natCast]
    have t1 : ¬ t = t + 1 := by omega
    have t2 : ¬ t = t + 2 := by omega
    simp only [t1, t2, false_and, and_true, true_and, if_true, if_false, Nat.reduceEqDiff, and_false, reduceIte, bm_u_some, and_self, H.1.1, H.1.2.1, H.1.2.2.1, H.1.2.2.2.1, H.1.2.2.2.2.1, H.1.2.2.2.2.2.1, H.1.2.2.2.2.2.2.1, H.1.2.2.2.2.2.2.2.1, H.1.2.2.2.2.2.2.2.2.1, H.1.2.2.2.2.2.2.2.2.2]
    rw [q_wI (x := (i : Int) + 1) ⟨by omega, by omega⟩]
    refine ⟨by decide, by decide, by decide, by omega, by omega, by omega, ?_⟩
    have F1 : q_fr (fun a => t ≤ a ∧ a ≤ t + 3) w0 (bm_sq (bm_si (bm_si (bm_si (bm_si (bm_si (bm_sq w t 7 (t_v B (t_P B i))) t 6 (t_P B i)) t 4 (t_e B (t_P B i))) t 5 (t_k B (t_P B i))) (t + 1) i (t_k B (t_P B i))) (t + 2) i (t_P B i)) (t + 3) i (t_v B (t_P B i))) :=
      ((((((hf.sq (by omega)).si (by omega)).si (by omega)).si (by omega)).si (by omega)).si (by omega)).sq (by omega)
    have F2 : tk_tab (bm_sq (bm_si (bm_si (bm_si (bm_si (bm_si (bm_sq w t 7 (t_v B (t_P B i))) t 6 (t_P B i)) t 4 (t_e B (t_P B i))) t 5 (t_k B (t_P B i))) (t + 1) i (t_k B (t_P B i))) (t + 2) i (t_P B i)) (t + 3) i (t_v B (t_P B i))) t B (i + 1) := by
      intro j hj
      simp only [bm_si_kt, bm_si_kn, bm_si_sz, bm_si_sl, bm_si_gi, bm_si_gl, bm_si_gr, bm_sq_kt, bm_sq_kn, bm_sq_sz, bm_sq_sl, bm_sq_gi, bm_sq_gl, bm_sq_gr, bm_sr_kt, bm_sr_kn, bm_sr_sz, bm_sr_sl, bm_sr_gi, bm_sr_gl, bm_sr_gr]
      rcases Nat.lt_or_ge j i with q | q
      · have hh := ht j q
        refine ⟨?_, ?_, ?_⟩
        · rw [if_neg (by omega), if_neg (by omega), if_neg (by omega), if_neg (by omega), if_neg (by omega)]; exact hh.1
        · rw [if_neg (by omega), if_neg (by omega), if_neg (by omega), if_neg (by omega), if_neg (by omega)]; exact hh.2.1
        · rw [if_neg (by omega), if_neg (by omega)]; exact hh.2.2
      · obtain rfl : j = i := by omega
        refine ⟨?_, ?_, ?_⟩
        · rw [if_neg (by omega), if_pos (by simp)]
        · rw [if_pos (by simp)]
        · rw [if_pos (by simp)]
    have F3 : ∀ k, k ≠ 4 → k ≠ 5 → k ≠ 6 → bm_gi (bm_sq (bm_si (bm_si (bm_si (bm_si (bm_si (bm_sq w t 7 (t_v B (t_P B i))) t 6 (t_P B i)) t 4 (t_e B (t_P B i))) t 5 (t_k B (t_P B i))) (t + 1) i (t_k B (t_P B i))) (t + 2) i (t_P B i)) (t + 3) i (t_v B (t_P B i))) t k = bm_gi w t k := by
      intro k k1 k2 k3
      simp only [bm_si_kt, bm_si_kn, bm_si_sz, bm_si_sl, bm_si_gi, bm_si_gl, bm_si_gr, bm_sq_kt, bm_sq_kn, bm_sq_sz, bm_sq_sl, bm_sq_gi, bm_sq_gl, bm_sq_gr, bm_sr_kt, bm_sr_kn, bm_sr_sz, bm_sr_sl, bm_sr_gi, bm_sr_gl, bm_sr_gr]
      rw [if_neg (by omega), if_neg (by omega), if_neg (by omega), if_neg (by omega), if_neg (by omega)]
    have F4 : bm_gi (bm_sq (bm_si (bm_si (bm_si (bm_si (bm_si (bm_sq w t 7 (t_v B (t_P B i))) t 6 (t_P B i)) t 4 (t_e B (t_P B i))) t 5 (t_k B (t_P B i))) (t + 1) i (t_k B (t_P B i))) (t + 2) i (t_P B i)) (t + 3) i (t_v B (t_P B i))) t 4 = t_nx B (i + 1) := by
      simp only [bm_si_kt, bm_si_kn, bm_si_sz, bm_si_sl, bm_si_gi, bm_si_gl, bm_si_gr, bm_sq_kt, bm_sq_kn, bm_sq_sz, bm_sq_sl, bm_sq_gi, bm_sq_gl, bm_sq_gr, bm_sr_kt, bm_sr_kn, bm_sr_sz, bm_sr_sl, bm_sr_gi, bm_sr_gl, bm_sr_gr]
      rw [if_neg (by omega), if_neg (by omega), if_neg (by omega), if_pos (by simp)]
      rfl
    have F5 : bm_gi (bm_sq (bm_si (bm_si (bm_si (bm_si (bm_si (bm_sq w t 7 (t_v B (t_P B i))) t 6 (t_P B i)) t 4 (t_e B (t_P B i))) t 5 (t_k B (t_P B i))) (t + 1) i (t_k B (t_P B i))) (t + 2) i (t_P B i)) (t + 3) i (t_v B (t_P B i))) t 5 = t_k B (t_P B i) := by
      simp only [bm_si_kt, bm_si_kn, bm_si_sz, bm_si_sl, bm_si_gi, bm_si_gl, bm_si_gr, bm_sq_kt, bm_sq_kn, bm_sq_sz, bm_sq_sl, bm_sq_gi, bm_sq_gl, bm_sq_gr, bm_sr_kt, bm_sr_kn, bm_sr_sz, bm_sr_sl, bm_sr_gi, bm_sr_gl, bm_sr_gr]
      rw [if_neg (by omega), if_neg (by omega), if_pos (by simp)]
    generalize (bm_sq (bm_si (bm_si (bm_si (bm_si (bm_si (bm_sq w t 7 (t_v B (t_P B i))) t 6 (t_P B i)) t 4 (t_e B (t_P B i))) t 5 (t_k B (t_P B i))) (t + 1) i (t_k B (t_P B i))) (t + 2) i (t_P B i)) (t + 3) i (t_v B (t_P B i))) = w2 at F1 F2 F3 F4 F5 ⊢
    by_cases c : t_k B (t_P B i) = 0
    · refine vb_X9_scan_31 ?_
      have H2 : sh_Tk t w2 := sh_Tk.fr F1 h0.1
      simp only [bm_c0_v, bm_c1_v, bm_c2_v, bm_c3_v, bm_c4_v, bm_c5_v, bm_u_some, decide_eq_true_eq, true_and, and_true, and_self, Bool.not_eq_true, Bool.not_eq_true', decide_eq_false_iff_not, if_true, if_false, ite_true, ite_false, eq_self, H2.1, H2.2.1, H2.2.2.1, H2.2.2.2.1, H2.2.2.2.2.1, H2.2.2.2.2.2.1, H2.2.2.2.2.2.2.1, H2.2.2.2.2.2.2.2.1, H2.2.2.2.2.2.2.2.2.1, H2.2.2.2.2.2.2.2.2.2, F5, c]
      have fin : Ψ (.inl none) w2 := hq w2 i F1 (by have := hR.2.2 hk; omega) hk c F2 ((F3 8 (by decide) (by decide) (by decide)).trans h8) ((F3 9 (by decide) (by decide) (by decide)).trans h9) ((F3 10 (by decide) (by decide) (by decide)).trans h10)
      refine ⟨by decide, ?_⟩
      split
      · exact fin
      · refine ⟨by decide, by decide, fin⟩
    · have := sp_scan_loop (d := d) h0 hB hq n (i + 1) w2 (by omega) F1 (fun j hj => by
          rcases Nat.lt_or_ge j i with q | q
          · exact hk j q
          · obtain rfl : j = i := by omega
            exact c) F2 F4 (by rw [F5]; exact c) ((F3 8 (by decide) (by decide) (by decide)).trans h8) ((F3 9 (by decide) (by decide) (by decide)).trans h9) ((F3 10 (by decide) (by decide) (by decide)).trans h10)
      exact this
theorem sp_scan {d t tp : Nat} {Φ : bm_Rt → bm_W → Prop} {w : bm_W} (h : sh_TT t tp w) (hq : ∀ (w' : bm_W) (N : Nat), q_fr (fun a => t ≤ a ∧ a ≤ t + 3) w w' → N ≤ 1500 → (∀ j, j < N → t_k (tp_at w tp) (t_P (tp_at w tp) j) ≠ 0) → t_k (tp_at w tp) (t_P (tp_at w tp) N) = 0 → tk_tab w' t (tp_at w tp) (N + 1) → bm_gi w' t 8 = 0 → bm_gi w' t 9 = 1501 → bm_gi w' t 10 = 0 → Φ (.inl none) w') : bm_Call bm_pg (d + 5) y_X9_scan [bm_r (some t)] w Φ := by
  refine vc_X9_scan ?_
  have ht := h.2.2.2.1
  simp only [bm_si_kt, bm_si_kn, bm_si_sz, bm_si_sl, bm_si_gi, bm_si_gl, bm_si_gr, bm_sq_kt, bm_sq_kn, bm_sq_sz, bm_sq_sl, bm_sq_gi, bm_sq_gl, bm_sq_gr, bm_sr_kt, bm_sr_kn, bm_sr_sz, bm_sr_sl, bm_sr_gi, bm_sr_gl, bm_sr_gr, bm_c0_v, bm_c1_v, bm_c2_v, bm_c3_v, bm_c4_v, bm_c5_v, bm_u_some, decide_eq_true_eq, true_and, and_true, and_self, Bool.not_eq_true, Bool.not_eq_true', decide_eq_false_iff_not, if_true, if_false, ite_true, ite_false, eq_self, h.1.1, h.1.2.1, h.1.2.2.1, h.1.2.2.2.1, h.1.2.2.2.2.1, h.1.2.2.2.2.2.1, h.1.2.2.2.2.2.2.1, h.1.2.2.2.2.2.2.2.1, h.1.2.2.2.2.2.2.2.2.1, h.1.2.2.2.2.2.2.2.2.2]
  refine ⟨by decide, by simp, vb_X9_scan_24 ?_⟩
  simp only [bm_si_kt, bm_si_kn, bm_si_sz, bm_si_sl, bm_si_gi, bm_si_gl, bm_si_gr, bm_sq_kt, bm_sq_kn, bm_sq_sz, bm_sq_sl, bm_sq_gi, bm_sq_gl, bm_sq_gr, bm_sr_kt, bm_sr_kn, bm_sr_sz, bm_sr_sl, bm_sr_gi, bm_sr_gl, bm_sr_gr, bm_c0_v, bm_c1_v, bm_c2_v, bm_c3_v, bm_c4_v, bm_c5_v, bm_u_some, decide_eq_true_eq, true_and, and_true, and_self, Bool.not_eq_true, Bool.not_eq_true', decide_eq_false_iff_not, if_true, if_false, ite_true, ite_false, eq_self, h.1.1, h.1.2.1, h.1.2.2.1, h.1.2.2.2.1, h.1.2.2.2.2.1, h.1.2.2.2.2.2.1, h.1.2.2.2.2.2.2.1, h.1.2.2.2.2.2.2.2.1, h.1.2.2.2.2.2.2.2.2.1, h.1.2.2.2.2.2.2.2.2.2]
  have F1 : q_fr (fun a => t ≤ a ∧ a ≤ t + 3) w (bm_si (bm_si (bm_si (bm_si (bm_si w t 4 0) t 8 0) t 9 1501) t 10 0) t 5 1) := ((((q_fr.rf.si (by omega)).si (by omega)).si (by omega)).si (by omega)).si (by omega)
  have F4 : bm_gi (bm_si (bm_si (bm_si (bm_si (bm_si w t 4 0) t 8 0) t 9 1501) t 10 0) t 5 1) t 4 = 0 := by simp [bm_si_gi]
  have F5 : bm_gi (bm_si (bm_si (bm_si (bm_si (bm_si w t 4 0) t 8 0) t 9 1501) t 10 0) t 5 1) t 5 = 1 := by simp [bm_si_gi]
  have F8 : bm_gi (bm_si (bm_si (bm_si (bm_si (bm_si w t 4 0) t 8 0) t 9 1501) t 10 0) t 5 1) t 8 = 0 := by simp [bm_si_gi]
  have F9 : bm_gi (bm_si (bm_si (bm_si (bm_si (bm_si w t 4 0) t 8 0) t 9 1501) t 10 0) t 5 1) t 9 = 1501 := by simp [bm_si_gi]
  have F10 : bm_gi (bm_si (bm_si (bm_si (bm_si (bm_si w t 4 0) t 8 0) t 9 1501) t 10 0) t 5 1) t 10 = 0 := by simp [bm_si_gi]
  have HT := sh_TT.fr F1 (by omega) h
  have HB : tp_at (bm_si (bm_si (bm_si (bm_si (bm_si w t 4 0) t 8 0) t 9 1501) t 10 0) t 5 1) tp = tp_at w tp := tp_at_fr F1 (by omega) (by omega)
  refine sp_scan_loop (B := tp_at w tp) (tp := tp) HT HB.symm (fun w' N f n k k0 tb e8 e9 e10 => hq w' N (F1.tr f) n k k0 tb (e8.trans F8) (e9.trans F9) (e10.trans F10)) 1501 0 _ rfl q_fr.rf (fun j q => by omega) (fun j q => by omega) F4 (fun z => absurd (F5.symm.trans z) (by decide)) rfl rfl rfl
