/-! ===== what a call of a function comes to ===== -/
def d_call (F : q_D) (Ds : List q_D) : q_D := fun a ch => match (d_args Ds a ch).1 with
  | none => (none, (d_args Ds a ch).2)
  | some xs => ((F (fun i => xs.getD i 0) (-1)).1, (d_args Ds a ch).2 ++ (F (fun i => xs.getD i 0) (-1)).2)
theorem rn_call {d m p f c : Nat} {num base chg steps : Int} {w : bm_W} {Φ : bm_Rt → bm_W → Prop} (h : sh_Mc m p w) (hf : sh_Fn f w) (h5 : bm_gi w m 5 = 0) (hs0 : 0 ≤ steps) (hs : steps ≤ c) (hc : (c : Int) < bm_gi w f 7) (hL : bm_gi w f 7 ≤ 100) (ho : bm_gi w (f + 5) c = 35)
    (q : bm_Call bm_pg (d + 1) y_X2_runCalled [bm_r (some m), bm_i num, bm_i (bm_gi w (f + 6) c)] w (fun r w' => bm_c0 (bk_X2_run_16 (d + 1) Φ m num base chg f ((c + 1 : Nat) : Int) (steps + 1) w') (fun E => Φ (.inr E) w') r)) : bk_X2_run_16 (d + 1) Φ m num base chg f (c : Int) steps w := by
  refine rn_step h hf h5 hs0 hs hc hL (vb_X2_run_79 ?_)
  rw [ho]
  have hs' : (c : Int) < 100 := by omega
  have e2 : bm_w (steps + 1) = steps + 1 := q_wI ⟨by omega, by omega⟩
  simp only [Int.reduceEq, if_true, if_false, reduceIte, h.1, true_and, rn_c1 hs', e2]
  exact q
theorem sp_runCalled {d m p n k wt dp : Nat} {num g : Int} {D : q_D} {a : Nat → Int} {w0 w : bm_W} {Φ : bm_Rt → bm_W → Prop} (hP : sh_Pg p w0) (hF : q_fun m p w0 g k D wt dp) (hg : 0 ≤ g ∧ g < num) (hd : dp ≤ d) (hf : q_fr (fun a => m ≤ a ∧ a ≤ m + 3) w0 w) (h5 : bm_gi w m 5 = 0) (h4 : bm_gi w m 4 = ((n + k : Nat) : Int)) (hn : n + k + wt ≤ 203) (hw : 1 ≤ wt) (ha : ∀ i, i < k → bm_gl w (m + 1) (n + i) = a i)
    (hS : ∀ v, (D a (-1)).1 = some v → ∀ w' : bm_W, mc_R m n (D a (-1)).2 v w w' → Φ (.inl none) w') (hN : (D a (-1)).1 = none → ∀ w' : bm_W, mc_Q m (D a (-1)).2 w w' → bm_gi w' m 5 = 1 → Φ (.inl none) w') : bm_Call bm_pg (d + 3) y_X2_runCalled [bm_r (some m), bm_i num, bm_i g] w Φ := by
  have hM : sh_Mc m p w := hF.1.1.fr hf
  have hP' : sh_Pg p w := hP.fr hf
  have hG := hP'.fn g
  have g6 : bm_gi w (pg_fn p g) 6 = (k : Int) := (hf.gi (a := pg_fn p g) (hF.1.2.2.2 0 (by decide))).trans hF.2.1
  have e1 : bm_w (((n + k : Nat) : Int) - (k : Int)) = (n : Int) := by rw [show ((n + k : Nat) : Int) - (k : Int) = n by omega]; exact q_wI ⟨by omega, by omega⟩
  refine vc_X2_runCalled ?_
  simp only [bm_c0_v, bm_c1_v, bm_c2_v, bm_c3_v, bm_c4_v, bm_c5_v, bm_u_some, decide_eq_true_eq, true_and, and_true, and_self, Bool.not_eq_true, Bool.not_eq_true', decide_eq_false_iff_not, if_true, if_false, ite_true, ite_false, eq_self, hM.1, hM.2.1, hM.2.2.1, hM.2.2.2.1, hM.2.2.2.2.1, hM.2.2.2.2.2.1, hM.2.2.2.2.2.2.1, hM.2.2.2.2.2.2.2.1, hM.2.2.2.2.2.2.2.2.1, hM.2.2.2.2.2.2.2.2.2.1, hM.2.2.2.2.2.2.2.2.2.2, hP'.1, sp_funAt hP', hG.1, g6, h4, e1]
  rw [if_neg (by omega), if_pos hg.2]
  refine run_fun (n := n + k) (d := d + 1) (a := a) hP hF (by omega) (by omega) hf h5 h4 hn (Nat.le_refl _) ha (fun v hv w2 hR => ?_) (fun hv w2 hQ h52 => ?_)
  · have hf2 := hf.tr hR.1.1
    have hM2 : sh_Mc m p w2 := hF.1.1.fr hf2
    have hM3 : sh_Mc m p (bm_si (bm_si w2 m 4 ((n + k : Nat) : Int)) m 4 (n : Int)) := hM2
    have e4 : bm_si (bm_sq (bm_si (bm_si w2 m 4 ((n + k : Nat) : Int)) m 4 (n : Int)) (m + 1) n v) m 4 ((n : Int) + 1) = mc_put w2 m n v := (mc_put_si _ m n v _).trans (mc_put_si _ m n v _)
    simp only [bm_c0_v, bm_c1_v, bm_c2_v, bm_c3_v, bm_c4_v, bm_c5_v, bm_u_some, decide_eq_true_eq, true_and, and_true, and_self, Bool.not_eq_true, Bool.not_eq_true', decide_eq_false_iff_not, if_true, if_false, ite_true, ite_false, eq_self, hM2.1, sp_pop hM2 hR.2.1 (by omega), hR.2.2.2.1, bm_si_kt, bm_si_kn, bm_si_sz, bm_si_sl, bm_si_gi, bm_si_gl, bm_si_gr, bm_sq_kt, bm_sq_kn, bm_sq_sz, bm_sq_sl, bm_sq_gi, bm_sq_gl, bm_sq_gr, bm_sr_kt, bm_sr_kn, bm_sr_sz, bm_sr_sl, bm_sr_gi, bm_sr_gl, bm_sr_gr, sp_push (d := d + 1) hM3 q_gi_eq (by omega), e4]
    exact hS v hv _ (mc_R.put (n' := n) (v' := 0) hR.1 hR.2.2.1 (fun j q => hR.2.2.2.2 j (by omega)))
  · have hf2 := hf.tr hQ.1
    have hM2 : sh_Mc m p w2 := hF.1.1.fr hf2
    simp only [bm_c0_v, bm_c1_v, bm_c2_v, bm_c3_v, bm_c4_v, bm_c5_v, bm_u_some, decide_eq_true_eq, true_and, and_true, and_self, Bool.not_eq_true, Bool.not_eq_true', decide_eq_false_iff_not, if_true, if_false, ite_true, ite_false, eq_self, hM2.1]
    refine sp_pop_any hM2 (fun v w3 hQ3 h53 => ?_)
    have hf3 := hf2.tr hQ3.1
    have hM3 : sh_Mc m p w3 := hF.1.1.fr hf3
    have hM4 : sh_Mc m p (bm_si w3 m 4 (n : Int)) := hM3
    simp only [bm_c0_v, bm_c1_v, bm_c2_v, bm_c3_v, bm_c4_v, bm_c5_v, bm_u_some, decide_eq_true_eq, true_and, and_true, and_self, Bool.not_eq_true, Bool.not_eq_true', decide_eq_false_iff_not, if_true, if_false, ite_true, ite_false, eq_self, hM3.1, bm_si_kt, bm_si_kn, bm_si_sz, bm_si_sl, bm_si_gi, bm_si_gl, bm_si_gr, bm_sq_kt, bm_sq_kn, bm_sq_sz, bm_sq_sl, bm_sq_gi, bm_sq_gl, bm_sq_gr, bm_sr_kt, bm_sr_kn, bm_sr_sz, bm_sr_sl, bm_sr_gi, bm_sr_gl, bm_sr_gr, sp_push (d := d + 1) hM4 q_gi_eq (by omega)]
    have hQ4 := hQ.tr hQ3
    rw [List.append_nil] at hQ4
    refine hN hv _ (((hQ4.st (by decide)).sq).st (by decide)) ?_
    rw [q_gi_nk (by decide), bm_sq_gi, q_gi_nk (by decide), h53, h52]
theorem seg_call {m p f : Nat} {num : Int} {k : Nat} {w0 : bm_W} (h : q_cd m p f w0) (hP : sh_Pg p w0) {c0 c1 wt wt2 dp dp2 : Nat} {g : Int} {F : q_D} {Ds : List q_D} (hD : q_args m p f num k w0 c0 c1 Ds wt dp) (hF : q_fun m p w0 g Ds.length F wt2 dp2) (hg : 0 ≤ g ∧ g < num) (hc : (c1 : Int) < bm_gi w0 f 7) (ho : bm_gi w0 (f + 5) c1 = 35) (hv : bm_gi w0 (f + 6) c1 = g) (hw : Ds.length ≤ wt) (hw2 : 1 ≤ wt2) (hdp : dp2 + 3 ≤ dp) : q_seg m p f num k w0 c0 (c1 + 1) (d_call F Ds) (wt + wt2) dp := by
  have l1 := hD.1
  refine ⟨by omega, fun d Φ base n chg steps a w hd hf h5 h4 hn hb ha s0 s1 hS hN => ?_⟩
  refine hD.2 d Φ base n chg steps a w hd hf h5 h4 (by omega) hb ha s0 s1 (fun vs hvs w1 st1 hQ g4 g5 gv gj t0 t1 => ?_) (fun hvs w1 hQ h51 => ?_)
  · have hv1 : d_call F Ds a chg = ((F (fun i => vs.getD i 0) (-1)).1, (d_args Ds a chg).2 ++ (F (fun i => vs.getD i 0) (-1)).2) := by
      unfold d_call
      rw [hvs]
    rw [hv1] at hS hN
    have hf1 := hf.tr hQ.1
    have q5 : bm_gi w1 (f + 5) c1 = bm_gi w0 (f + 5) c1 := hf1.gi (h.2.2.2 5 (by decide))
    have q6 : bm_gi w1 (f + 6) c1 = bm_gi w0 (f + 6) c1 := hf1.gi (h.2.2.2 6 (by decide))
    have qL : bm_gi w1 f 7 = bm_gi w0 f 7 := hf1.gi (h.2.2.2 0 (by decide))
    obtain ⟨d, rfl⟩ : ∃ d', d = d' + 3 := ⟨d - 3, by omega⟩
    refine rn_call (d := d + 2) (h.1.fr hf1) (h.2.1.fr hf1) g5 t0 t1 (by rw [qL]; exact hc) (by rw [qL]; exact h.2.2.1) (q5.trans ho) ?_
    rw [q6, hv]
    refine sp_runCalled (n := n) (a := fun i => vs.getD i 0) hP hF hg (by omega) hf1 g5 g4 (by omega) hw2 gv (fun v hv w2 hR => ?_) (fun hv w2 hQ2 h52 => ?_)
    · show bk_X2_run_16 _ _ _ _ _ _ _ _ _ _
      exact hS v hv w2 _ ⟨hQ.tr hR.1, hR.2.1, hR.2.2.1, hR.2.2.2.1, fun j q => (hR.2.2.2.2 j q).trans (gj j q)⟩ (by omega) (by omega)
    · show bk_X2_run_16 _ _ _ _ _ _ _ _ _ _
      have hf2 := hf1.tr hQ2.1
      exact rn_fault (h.1.fr hf2).1 (h.2.1.fr hf2).1 h52 (hN hv w2 (hQ.tr hQ2) h52)
  · have hv1 : d_call F Ds a chg = (none, (d_args Ds a chg).2) := by
      unfold d_call
      rw [hvs]
    rw [hv1] at hN
    exact hN rfl w1 hQ h51
