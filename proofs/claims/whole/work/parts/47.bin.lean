/-! ===== what nodes of the model come to: operators ===== -/
theorem nd_bin {m i dp : Nat} {w0 : bm_W} {e1 e2 : Int} {D E : q_D} (h : sh_Md m w0) (hi : i < 1500) (hk : bm_gi w0 (m + 7) i = 5) (ho : 2 ≤ bm_gi w0 (m + 11) i ∧ bm_gi w0 (m + 11) i ≤ 12) (h1 : bm_gi w0 (m + 8) i = e1) (h2 : bm_gi w0 (m + 9) i = e2) (hD : q_node m w0 e1 D dp) (hE : q_node m w0 e2 E dp) : q_node m w0 (i : Int) (d_bin (bm_gi w0 (m + 11) i + 20) (bm_gi w0 (m + 12) i) D E) (dp + 3) := by
  intro d Φ a b c ch w hd hf h36 hS hN
  obtain ⟨d, rfl⟩ : ∃ d', d = d' + 3 := ⟨d - 3, by omega⟩
  have hM : sh_Md m w := h.fr hf
  have g7 : bm_gi w (m + 7) i = bm_gi w0 (m + 7) i := hf.gi (by omega)
  have g8 : bm_gi w (m + 8) i = bm_gi w0 (m + 8) i := hf.gi (by omega)
  have g12 : bm_gi w (m + 12) i = bm_gi w0 (m + 12) i := hf.gi (by omega)
  refine nd_step (d := d + 2) hM hi (vb_X12_worth_30 ?_)
  rw [g7, hk, g12]
  simp only [bm_c0_v, bm_c1_v, bm_c2_v, bm_c3_v, bm_c4_v, bm_c5_v, bm_u_some, decide_eq_true_eq, true_and, and_true, and_self, Bool.not_eq_true, Bool.not_eq_true', decide_eq_false_iff_not, if_true, if_false, ite_true, ite_false, eq_self, hM.1, hM.g13, hM.t13, hM.n13, bm_in, Int.toNat_natCast, g8, h1, Int.reduceEq, not_false_eq_true]
  refine ⟨by omega, ?_⟩
  refine hD (d + 2) _ a b c ch w (by omega) hf h36 (fun x hx w1 hQ h5 => ?_) (fun hx w1 hQ h5 => ?_)
  · have hM1 : sh_Md m w1 := hM.fr hQ.1
    have hf1 := hf.tr hQ.1
    have g11 : bm_gi w1 (m + 11) i = bm_gi w0 (m + 11) i := hf1.gi (by omega)
    simp only [bm_c0_v, bm_c1_v, bm_c2_v, bm_c3_v, bm_c4_v, bm_c5_v, bm_u_some, decide_eq_true_eq, true_and, and_true, and_self, Bool.not_eq_true, Bool.not_eq_true', decide_eq_false_iff_not, if_true, if_false, ite_true, ite_false, eq_self, hM1.1, hM1.g16, hM1.t16, hM1.n16, bm_in, Int.toNat_natCast, h5, Int.reduceEq, not_false_eq_true, not_true_eq_false, g11, mp_changed (d := d + 1) (op := bm_gi w0 (m + 11) i) ⟨by omega, by omega⟩]
    have fin : ∀ op : Int, 2 ≤ op ∧ op ≤ 12 → op + 20 = (if ¬ ch = -1 ∧ bm_gi w0 (m + 12) i = ch then t_chg (bm_gi w0 (m + 11) i + 20) else bm_gi w0 (m + 11) i + 20) → bm_Call bm_pg (d + 2) y_X12_both [bm_r (some m), bm_i (i : Int), bm_i op, bm_l x, bm_l a, bm_l b, bm_l c, bm_i ch] w1 (fun r w2 => bm_c2 (fun x2 => Φ (.inl (some (bm_l x2))) w2) (fun E => Φ (.inr E) w2) r) := by
      intro op ho2 heq
      unfold d_bin at hS hN
      rw [hx] at hS hN
      dsimp only at hS hN
      refine mp_both (d := d + 1) h hi h2 hE ho2 (by omega) hf1 h5 (fun y v hy hv w2 hQ2 h52 => ?_) (fun hh w2 hQ2 h52 => ?_)
      · rw [hy] at hS
        dsimp only at hS
        rw [← heq, hv] at hS
        exact hS v rfl w2 (hQ.tr hQ2) h52
      · cases hy : (E (q_abc a b c) ch).1 with
        | none =>
          rw [hy] at hN
          exact hN rfl w2 (hQ.tr hQ2) h52
        | some y =>
          rw [hy] at hN
          dsimp only at hN
          rw [← heq] at hN
          exact hN (hh y hy) w2 (hQ.tr hQ2) h52
    by_cases z : ¬ ch = -1 ∧ bm_gi w0 (m + 12) i = ch
    · rw [if_pos z] at fin
      rw [if_pos z, if_neg (by decide)]
      have hm := t_mchg_op ho
      exact ⟨by omega, fin _ ⟨hm.1, (t_mchg_rng ⟨by omega, by omega⟩).2⟩ hm.2⟩
    · rw [if_neg z] at fin
      rw [if_neg z, if_pos rfl]
      exact ⟨by omega, fin _ ho rfl⟩
  · have hM1 : sh_Md m w1 := hM.fr hQ.1
    simp only [bm_c0_v, bm_c1_v, bm_c2_v, bm_c3_v, bm_c4_v, bm_c5_v, bm_u_some, decide_eq_true_eq, true_and, and_true, and_self, Bool.not_eq_true, Bool.not_eq_true', decide_eq_false_iff_not, if_true, if_false, ite_true, ite_false, eq_self, hM1.1, h5]
    rw [if_neg (by decide)]
    unfold d_bin at hN
    rw [hx] at hN
    exact hN rfl w1 hQ h5
