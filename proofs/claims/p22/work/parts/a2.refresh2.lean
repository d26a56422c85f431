/-! ===== refresh ===== -/
section RF
variable {d t : Nat} {B : Int → Int} {pr : y_pr} {w : bm_W} {Φ : bm_Rt → bm_W → Prop}
theorem zA.tb (h : zA t B pr w) {k : Nat} (hk : k < 6) : pg_tb (t + 4) (k : Int) = t + 70 + 7 * k := by have := pg_tb_in (t + 4) k hk; omega
theorem rf_22 (h : zA t B pr w) (hq : ∀ w', q_fr (fun a => zX t a ∨ a = t + 117) w w' → bm_gi w' (t + 117) 2 = 1 → bm_gi w' (t + 113) 6 = 0 → zN t pr pr.2.length w' → Φ (.inl none) w') : ∀ (rem k : Nat) (w1 : bm_W), k + rem = pr.2.length → q_fr (fun a => zX t a ∨ a = t + 117) w w1 → bm_gi w1 (t + 117) 2 = 1 → bm_gi w1 (t + 113) 6 = 1 → zN t pr k w1 → bk_X6_refresh_22 (d + 25) Φ (t + 117) (k : Int) w1
  | 0, k, w1, hk, hf, h2, h6, hN => by
    have A1 := h.fr hf (fun a z => z)
    have S := A1.1
    refine vb_X6_refresh_22 ?_
    simp only [bm_c0_v, bm_c1_v, bm_c2_v, bm_c3_v, bm_c4_v, bm_c5_v, bm_u_some, decide_eq_true_eq, true_and, and_true, and_self, Bool.not_eq_true, Bool.not_eq_true', decide_eq_false_iff_not, if_true, if_false, ite_true, ite_false, eq_self, S.1, S.2.1, S.2.2.1, S.2.2.2.1.1, S.2.2.2.2.1, A1.2.1, sp_stopCounting (d := d + 24) S.2.2.2.2, bm_c0_v]
    rw [if_pos (by omega)]
    have e : k = pr.2.length := by omega
    subst e
    have tb := fun (k : Nat) (hk : k < 6) => h.tb hk
    refine hq _ (hf.si (Or.inl (Or.inl (by omega)))) ((q_gi_ne (by omega)).trans h2) q_gi_eq ⟨fun k hk j hj => ?_, fun j hj => ?_⟩
    · have := tb k (by have := h.2.2.1; omega)
      rw [q_gi_ne (by omega)]
      exact hN.1 k hk j hj
    · rw [q_gi_ne (by omega), q_gi_ne (by omega)]
      exact hN.2 j hj
  | rem + 1, k, w1, hk, hf, h2, h6, hN => by
    have A1 := h.fr hf (fun a z => z)
    have S := A1.1
    have k6 : k < 6 := by have := h.2.2.1; omega
    have tbk := h.tb k6
    have kl : k < pr.2.length := by omega
    refine vb_X6_refresh_22 ?_
    simp only [bm_c0_v, bm_c1_v, bm_c2_v, bm_c3_v, bm_c4_v, bm_c5_v, bm_u_some, decide_eq_true_eq, true_and, and_true, and_self, Bool.not_eq_true, Bool.not_eq_true', decide_eq_false_iff_not, if_true, if_false, ite_true, ite_false, eq_self, S.1, S.2.1, S.2.2.2.1.1, A1.2.1]
    rw [if_neg (by omega), sp_tableAt (d := d + 24) S.2.2.2.1, bm_c3_v]
    refine ⟨S.1, sp_runTable (d := d) (A1.2.2.2 k kl) (fun w2 P2 => ?_)⟩
    rw [bm_c0_v, bm_w1 (show k < 2147483647 by omega)]
    obtain ⟨p1, p2, p3, p4, p5⟩ := P2
    refine rf_22 h hq rem (k + 1) w2 (by omega) (hf.tr (p1.mo (fun a z => ?_))) ((p1.gi (by omega)).trans h2) (p2.trans h6) ⟨fun k' hk' j hj => ?_, fun j hj => ⟨?_, ?_⟩⟩
    · rcases z with z | z
      · exact Or.inl (Or.inl z)
      · exact Or.inl (Or.inr ⟨k, k6, z⟩)
    · by_cases z : k' = k
      · subst z
        exact p5 j (by omega)
      · have := h.tb (k := k') (by omega)
        rw [p1.gi (by omega)]
        exact hN.1 k' (by omega) j hj
    · rw [p3, h6]
      show _ = q_bump 1 true (s_trs pr k ++ s_tr (y_tF pr k).2.2.2.2 (pr.2.getD k y_t0).2.2 (y_ct (pr.2.getD k y_t0).2.2).toNat) (fun _ => 0) j
      rw [q_bump_app]
      exact q_bump_ext _ _ _ _ _ j (hN.2 j hj).1
    · rw [p4, h6]
      show _ = q_bump 1 false (s_trs pr k ++ s_tr (y_tF pr k).2.2.2.2 (pr.2.getD k y_t0).2.2 (y_ct (pr.2.getD k y_t0).2.2).toNat) (fun _ => 0) j
      rw [q_bump_app]
      exact q_bump_ext _ _ _ _ _ j (hN.2 j hj).2
/-- all cases are run, once -/
theorem sp_refresh (h : zA t B pr w) (h6 : bm_gi w (t + 113) 6 = 0) (hz : bm_gi w (t + 117) 2 = 0 ∨ (bm_gi w (t + 117) 2 = 1 ∧ zN t pr pr.2.length w)) (hq : ∀ w', q_fr (fun a => zX t a ∨ a = t + 117) w w' → bm_gi w' (t + 117) 2 = 1 → bm_gi w' (t + 113) 6 = 0 → zN t pr pr.2.length w' → Φ (.inl none) w') : bm_Call bm_pg (d + 26) y_X6_refresh [bm_r (some (t + 117))] w Φ := by
  have S := h.1
  refine vc_X6_refresh ?_
  rcases hz with z | ⟨z1, z2⟩
  · have F1 : q_fr (fun a => zX t a ∨ a = t + 117) w (bm_si w (t + 117) 2 1) := q_fr.rf.si (Or.inr rfl)
    have S1 : sh_Ru t (bm_si w (t + 117) 2 1) := S
    have v2 : bm_gi (bm_si w (t + 117) 2 1) (t + 117) 2 = 1 := q_gi_eq
    simp only [bm_c0_v, bm_c1_v, bm_c2_v, bm_c3_v, bm_c4_v, bm_c5_v, bm_u_some, decide_eq_true_eq, true_and, and_true, and_self, Bool.not_eq_true, Bool.not_eq_true', decide_eq_false_iff_not, if_true, if_false, ite_true, ite_false, eq_self, S.1, z, S1.1, S1.2.2.1, S1.2.2.2.2.1]
    generalize bm_si w (t + 117) 2 1 = w1 at F1 S1 v2 ⊢
    refine ⟨Or.inr trivial, sp_startCounting (d := d + 24) S1.2.2.2.2 (fun w2 F2 h6 h0 => ?_)⟩
    rw [bm_c0_v]
    refine rf_22 h hq pr.2.length 0 w2 (by omega) (F1.tr (F2.mo (fun a z => Or.inl (Or.inl (by omega))))) ((F2.gi (by omega)).trans v2) h6 ⟨fun k hk => by omega, fun j hj => h0 j hj⟩
  · simp only [bm_c0_v, bm_c1_v, bm_c2_v, bm_c3_v, bm_c4_v, bm_c5_v, bm_u_some, decide_eq_true_eq, true_and, and_true, and_self, Bool.not_eq_true, Bool.not_eq_true', decide_eq_false_iff_not, if_true, if_false, ite_true, ite_false, eq_self, S.1, z1]
    rw [if_neg (by decide)]
    exact hq w q_fr.rf z1 h6 z2
end RF
