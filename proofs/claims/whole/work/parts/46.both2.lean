/-! ===== the model's operators: both sides ===== -/
theorem mp_both {d m i dp : Nat} {e op x a b c ch : Int} {E : q_D} {w0 w : bm_W} {Φ : bm_Rt → bm_W → Prop} (h : sh_Md m w0) (hi : i < 1500) (he : bm_gi w0 (m + 9) i = e) (hE : q_node m w0 e E dp) (ho : 2 ≤ op ∧ op ≤ 12) (hd : dp + 1 ≤ d) (hf : q_fr (fun a => a = m ∨ a = m + 28 ∨ a = m + 29) w0 w) (h36 : bm_gi w m 36 = 0)
    (hS : ∀ y v, (E (q_abc a b c) ch).1 = some y → t_bin (op + 20) x y = some v → ∀ w' : bm_W, md_Q m (E (q_abc a b c) ch).2 w w' → bm_gi w' m 36 = 0 → Φ (.inl (some (bm_l v))) w')
    (hN : (∀ y, (E (q_abc a b c) ch).1 = some y → t_bin (op + 20) x y = none) → ∀ w' : bm_W, md_Q m (E (q_abc a b c) ch).2 w w' → bm_gi w' m 36 = 1 → Φ (.inl (some (bm_l 0))) w') : bm_Call bm_pg (d + 1) y_X12_both [bm_r (some m), bm_i (i : Int), bm_i op, bm_l x, bm_l a, bm_l b, bm_l c, bm_i ch] w Φ := by
  obtain ⟨d, rfl⟩ : ∃ d', d = d' + 1 := ⟨d - 1, by omega⟩
  have hM : sh_Md m w := h.fr hf
  have g9 : bm_gi w (m + 9) i = bm_gi w0 (m + 9) i := hf.gi (by omega)
  have n0 : ¬ op = 0 := by omega
  have n1 : ¬ op = 1 := by omega
  refine vc_X12_both ?_
  simp only [bm_c0_v, bm_c1_v, bm_c2_v, bm_c3_v, bm_c4_v, bm_c5_v, bm_u_some, decide_eq_true_eq, true_and, and_true, and_self, Bool.not_eq_true, Bool.not_eq_true', decide_eq_false_iff_not, if_true, if_false, ite_true, ite_false, eq_self, n0, n1, not_false_eq_true]
  refine vb_X12_both_25 ?_
  simp only [bm_c0_v, bm_c1_v, bm_c2_v, bm_c3_v, bm_c4_v, bm_c5_v, bm_u_some, decide_eq_true_eq, true_and, and_true, and_self, Bool.not_eq_true, Bool.not_eq_true', decide_eq_false_iff_not, if_true, if_false, ite_true, ite_false, eq_self, hM.1, hM.g14, hM.t14, hM.n14, bm_in, Int.toNat_natCast, g9, he]
  refine ⟨by omega, ?_⟩
  refine hE (d + 1) _ a b c ch w (by omega) hf h36 (fun y hy w' hQ h5 => ?_) (fun hy w' hQ h5 => ?_)
  · have hM' : sh_Md m w' := hM.fr hQ.1
    have q := fun v e => hS y v hy e w' hQ h5
    have q2 : t_bin (op + 20) x y = none → Φ (.inl (some (bm_l 0))) (bm_si w' m 36 1) := fun z => hN (fun y' hy' => by rw [hy] at hy'; cases hy'; exact z) _ ⟨hQ.1.si (Or.inl rfl), fun k hk => (q_gi_nk hk).trans (hQ.2.1 k hk), hQ.2.2.1, fun j => (q_gi_ne (by omega)).trans (hQ.2.2.2.1 j), fun j => (q_gi_ne (by omega)).trans (hQ.2.2.2.2 j)⟩ q_gi_eq
    unfold t_bin at q q2
    simp only [bm_c0_v, bm_c1_v, bm_c2_v, bm_c3_v, bm_c4_v, bm_c5_v, bm_u_some, decide_eq_true_eq, true_and, and_true, and_self, Bool.not_eq_true, Bool.not_eq_true', decide_eq_false_iff_not, if_true, if_false, ite_true, ite_false, eq_self, hM'.1, h5, mp_holds, mp_truth, mp_fault hM']
    rcases (show op = 2 ∨ op = 3 ∨ op = 4 ∨ op = 5 ∨ op = 6 ∨ op = 7 ∨ op = 8 ∨ op = 9 ∨ op = 10 ∨ op = 11 ∨ op = 12 by omega) with rfl | rfl | rfl | rfl | rfl | rfl | rfl | rfl | rfl | rfl | rfl
    all_goals simp only [Int.reduceEq, Int.reduceAdd, Int.reduceLE, if_true, if_false, reduceIte, not_true_eq_false, not_false_eq_true] at q q2 ⊢
    all_goals grind
  · have hM' : sh_Md m w' := hM.fr hQ.1
    simp only [bm_c0_v, bm_c1_v, bm_c2_v, bm_c3_v, bm_c4_v, bm_c5_v, bm_u_some, decide_eq_true_eq, true_and, and_true, and_self, Bool.not_eq_true, Bool.not_eq_true', decide_eq_false_iff_not, if_true, if_false, ite_true, ite_false, eq_self, hM'.1, h5]
    rw [if_neg (by decide)]
    exact hN (fun y hy' => by rw [hy] at hy'; cases hy') w' hQ h5
