/-! ===== what functions come to ===== -/
/-- function i of the program means D, with k inputs -/
def q_fun (m p : Nat) (w0 : bm_W) (i : Int) (k : Nat) (D : q_D) (wt dp : Nat) : Prop :=
  q_cd m p (pg_fn p i) w0 ∧ bm_gi w0 (pg_fn p i) 6 = (k : Int) ∧ ∃ L : Nat, bm_gi w0 (pg_fn p i) 7 = (L : Int) ∧ q_seg m p (pg_fn p i) i k w0 0 L D wt dp
theorem sp_pop_any {d m p : Nat} {w : bm_W} {Φ : bm_Rt → bm_W → Prop} (h : sh_Mc m p w) (q : ∀ (v : Int) (w' : bm_W), mc_Q m [] w w' → bm_gi w' m 5 = bm_gi w m 5 → Φ (.inl (some (bm_l v))) w') : bm_Call bm_pg (d + 1) y_X2_pop [bm_r (some m)] w Φ := by
  by_cases c : 0 < bm_gi w m 4 ∧ bm_gi w m 4 ≤ 203
  · obtain ⟨n, hn⟩ : ∃ n : Nat, bm_gi w m 4 = (n : Int) + 1 := ⟨(bm_gi w m 4 - 1).toNat, by omega⟩
    refine (sp_pop h hn (by omega)).mpr (q _ _ (mc_Q.rf.st (by decide)) (q_gi_nk (by decide)))
  · refine vc_X2_pop ?_
    have q' := q 0 w mc_Q.rf rfl
    simp only [bm_c0_v, bm_c1_v, bm_c2_v, bm_c3_v, bm_c4_v, bm_c5_v, bm_u_some, decide_eq_true_eq, true_and, and_true, and_self, Bool.not_eq_true, Bool.not_eq_true', decide_eq_false_iff_not, if_true, if_false, ite_true, ite_false, eq_self, h.1, h.2.1, h.2.2.1, h.2.2.2.1, h.2.2.2.2.1, h.2.2.2.2.2.1, h.2.2.2.2.2.2.1, h.2.2.2.2.2.2.2.1, h.2.2.2.2.2.2.2.2.1, h.2.2.2.2.2.2.2.2.2.1, h.2.2.2.2.2.2.2.2.2.2]
    split
    · exact q'
    · refine ⟨by decide, ?_⟩
      rw [if_neg (by omega)]
      exact q'
theorem run_fun {d m p n k wt dp base : Nat} {i chg : Int} {D : q_D} {a : Nat → Int} {w0 w : bm_W} {Φ : bm_Rt → bm_W → Prop} (hP : sh_Pg p w0) (hF : q_fun m p w0 i k D wt dp) (hd : dp ≤ d) (h1 : 1 ≤ d) (hf : q_fr (fun a => m ≤ a ∧ a ≤ m + 3) w0 w) (h5 : bm_gi w m 5 = 0) (h4 : bm_gi w m 4 = (n : Int)) (hn : n + wt ≤ 203) (hb : base + k ≤ n) (ha : ∀ i, i < k → bm_gl w (m + 1) (base + i) = a i)
    (hS : ∀ v, (D a chg).1 = some v → ∀ w' : bm_W, mc_R m n (D a chg).2 v w w' → Φ (.inl none) w') (hN : (D a chg).1 = none → ∀ w' : bm_W, mc_Q m (D a chg).2 w w' → bm_gi w' m 5 = 1 → Φ (.inl none) w') : bm_Call bm_pg (d + 1) y_X2_run [bm_r (some m), bm_i i, bm_i (base : Int), bm_i chg] w Φ := by
  obtain ⟨hc, hk, L, hL, hs⟩ := hF
  obtain ⟨d, rfl⟩ : ∃ d', d = d' + 1 := ⟨d - 1, by omega⟩
  have hM : sh_Mc m p w := hc.1.fr hf
  have hP' : sh_Pg p w := hP.fr hf
  refine vc_X2_run ?_
  simp only [bm_c0_v, bm_c1_v, bm_c2_v, bm_c3_v, bm_c4_v, bm_c5_v, bm_u_some, decide_eq_true_eq, true_and, and_true, and_self, Bool.not_eq_true, Bool.not_eq_true', decide_eq_false_iff_not, if_true, if_false, ite_true, ite_false, eq_self, hM.1, hM.2.1, hM.2.2.1, hM.2.2.2.1, hM.2.2.2.2.1, hM.2.2.2.2.2.1, hM.2.2.2.2.2.2.1, hM.2.2.2.2.2.2.2.1, hM.2.2.2.2.2.2.2.2.1, hM.2.2.2.2.2.2.2.2.2.1, hM.2.2.2.2.2.2.2.2.2.2, hP'.1, sp_funAt hP']
  refine hs.2 (d + 1) Φ base n chg 0 a w hd hf h5 h4 hn hb ha (Int.le_refl _) (Int.le_refl _) (fun v hv w' st' hR t0 t1 => ?_) hN
  have hf' := hf.tr hR.1.1
  exact rn_end (hc.2.1.fr hf').1 (Int.le_of_eq ((hf'.gi (a := pg_fn p i) (hc.2.2.2 0 (by decide))).trans hL)) (hS v hv w' hR)
