/-! ===== what reckoning a function comes to ===== -/
theorem sp_reckon {d m p k wt dp : Nat} {i chg x y z : Int} {D : q_D} {w0 w : bm_W} {Φ : bm_Rt → bm_W → Prop} (hP : sh_Pg p w0) (hF : q_fun m p w0 i k D wt dp) (hk : k ≤ 3) (hd : dp ≤ d) (hf : q_fr (fun a => m ≤ a ∧ a ≤ m + 3) w0 w) (hn : wt ≤ 200) (hw : 1 ≤ wt)
    (hS : ∀ v, (D (q_abc x y z) chg).1 = some v → ∀ w' : bm_W, mc_Q m (D (q_abc x y z) chg).2 w w' → bm_gi w' m 5 = 0 → Φ (.inl (some (bm_l v))) w')
    (hN : (D (q_abc x y z) chg).1 = none → ∀ w' : bm_W, mc_Q m (D (q_abc x y z) chg).2 w w' → bm_gi w' m 5 = 1 → Φ (.inl (some (bm_l 0))) w') : bm_Call bm_pg (d + 3) y_X2_reckon [bm_r (some m), bm_i i, bm_i chg, bm_l x, bm_l y, bm_l z] w Φ := by
  have hM : sh_Mc m p w := hF.1.1.fr hf
  have hM1 : sh_Mc m p (bm_si (bm_si w m 5 0) m 4 0) := hM
  have hM2 : sh_Mc m p (mc_put (bm_si (bm_si w m 5 0) m 4 0) m 0 x) := hM
  have hM3 : sh_Mc m p (mc_put (mc_put (bm_si (bm_si w m 5 0) m 4 0) m 0 x) m 1 y) := hM
  have p1 : ∀ Ψ : bm_Rt → bm_W → Prop, bm_Call bm_pg (d + 2) y_X2_push [bm_r (some m), bm_l x] (bm_si (bm_si w m 5 0) m 4 0) Ψ ↔ Ψ (.inl none) (mc_put (bm_si (bm_si w m 5 0) m 4 0) m 0 x) := fun Ψ => sp_push (n := 0) hM1 q_gi_eq (by decide)
  have p2 : ∀ Ψ : bm_Rt → bm_W → Prop, bm_Call bm_pg (d + 2) y_X2_push [bm_r (some m), bm_l y] (mc_put (bm_si (bm_si w m 5 0) m 4 0) m 0 x) Ψ ↔ Ψ (.inl none) (mc_put (mc_put (bm_si (bm_si w m 5 0) m 4 0) m 0 x) m 1 y) := fun Ψ => sp_push (n := 1) hM2 mc_put_4 (by decide)
  have p3 : ∀ Ψ : bm_Rt → bm_W → Prop, bm_Call bm_pg (d + 2) y_X2_push [bm_r (some m), bm_l z] (mc_put (mc_put (bm_si (bm_si w m 5 0) m 4 0) m 0 x) m 1 y) Ψ ↔ Ψ (.inl none) (mc_put (mc_put (mc_put (bm_si (bm_si w m 5 0) m 4 0) m 0 x) m 1 y) m 2 z) := fun Ψ => sp_push (n := 2) hM3 mc_put_4 (by decide)
  refine vc_X2_reckon ?_
  have k1 : bm_kt (mc_put (bm_si (bm_si w m 5 0) m 4 0) m 0 x) m = 2 := hM.1
  have k2 : bm_kt (mc_put (mc_put (bm_si (bm_si w m 5 0) m 4 0) m 0 x) m 1 y) m = 2 := hM.1
  have k3 : bm_kt (mc_put (mc_put (mc_put (bm_si (bm_si w m 5 0) m 4 0) m 0 x) m 1 y) m 2 z) m = 2 := hM.1
  simp only [bm_c0_v, bm_c1_v, bm_c2_v, bm_c3_v, bm_c4_v, bm_c5_v, bm_u_some, decide_eq_true_eq, true_and, and_true, and_self, Bool.not_eq_true, Bool.not_eq_true', decide_eq_false_iff_not, if_true, if_false, ite_true, ite_false, eq_self, bm_si_kt, bm_si_kn, bm_si_sz, bm_si_sl, bm_si_gi, bm_si_gl, bm_si_gr, bm_sq_kt, bm_sq_kn, bm_sq_sz, bm_sq_sl, bm_sq_gi, bm_sq_gl, bm_sq_gr, bm_sr_kt, bm_sr_kn, bm_sr_sz, bm_sr_sl, bm_sr_gi, bm_sr_gl, bm_sr_gr, hM.1, p1, p2, p3, k1, k2, k3]
  refine ⟨by simp, ?_⟩
  have Q0 : mc_Q m [] w (mc_put (mc_put (mc_put (bm_si (bm_si w m 5 0) m 4 0) m 0 x) m 1 y) m 2 z) := ((((mc_Q.rf.st (by decide)).st (by decide)).put).put).put
  have g5 : bm_gi (mc_put (mc_put (mc_put (bm_si (bm_si w m 5 0) m 4 0) m 0 x) m 1 y) m 2 z) m 5 = 0 := by
    rw [mc_put_k (by decide), mc_put_k (by decide), mc_put_k (by decide), q_gi_nk (by decide), q_gi_eq]
  have g4 : bm_gi (mc_put (mc_put (mc_put (bm_si (bm_si w m 5 0) m 4 0) m 0 x) m 1 y) m 2 z) m 4 = ((3 : Nat) : Int) := mc_put_4
  have ga : ∀ j, j < 3 → bm_gl (mc_put (mc_put (mc_put (bm_si (bm_si w m 5 0) m 4 0) m 0 x) m 1 y) m 2 z) (m + 1) j = q_abc x y z j := by
    intro j hj
    rcases (show j = 0 ∨ j = 1 ∨ j = 2 by omega) with rfl | rfl | rfl
    · rw [mc_put_j (by decide), mc_put_j (by decide), mc_put_v]; rfl
    · rw [mc_put_j (by decide), mc_put_v]; rfl
    · rw [mc_put_v]; rfl
  generalize mc_put (mc_put (mc_put (bm_si (bm_si w m 5 0) m 4 0) m 0 x) m 1 y) m 2 z = w1 at Q0 g5 g4 ga ⊢
  refine run_fun (n := 3) (base := 0) (d := d + 1) (a := q_abc x y z) hP hF (by omega) (by omega) (hf.tr Q0.1) g5 g4 (by omega) (by omega) (fun j hj => by rw [Nat.zero_add]; exact ga j (by omega)) (fun v hv w2 hR => ?_) (fun hv w2 hQ h52 => ?_)
  · have hM4 : sh_Mc m p w2 := hF.1.1.fr ((hf.tr Q0.1).tr hR.1.1)
    simp only [bm_c0_v, bm_c1_v, bm_c2_v, bm_c3_v, bm_c4_v, bm_c5_v, bm_u_some, decide_eq_true_eq, true_and, and_true, and_self, Bool.not_eq_true, Bool.not_eq_true', decide_eq_false_iff_not, if_true, if_false, ite_true, ite_false, eq_self, hM4.1, hR.2.2.1]
    have Q2 := Q0.tr hR.1
    rw [List.nil_append] at Q2
    refine (sp_pop hM4 hR.2.1 (by decide)).mpr ?_
    rw [bm_c2_v, hR.2.2.2.1]
    exact hS v hv _ (Q2.st (by decide)) ((q_gi_nk (by decide)).trans hR.2.2.1)
  · have hM4 : sh_Mc m p w2 := hF.1.1.fr ((hf.tr Q0.1).tr hQ.1)
    simp only [bm_c0_v, bm_c1_v, bm_c2_v, bm_c3_v, bm_c4_v, bm_c5_v, bm_u_some, decide_eq_true_eq, true_and, and_true, and_self, Bool.not_eq_true, Bool.not_eq_true', decide_eq_false_iff_not, if_true, if_false, ite_true, ite_false, eq_self, hM4.1, h52]
    have Q2 := Q0.tr hQ
    rw [List.nil_append] at Q2
    rw [if_neg (by decide)]
    exact hN hv w2 Q2 h52
