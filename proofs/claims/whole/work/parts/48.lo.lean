/-! ===== what nodes of the model come to: and, or ===== -/
theorem mp_both_lo {d m i dp : Nat} {e op x a b c ch : Int} {E : q_D} {w0 w : bm_W} {Φ : bm_Rt → bm_W → Prop} (h : sh_Md m w0) (hi : i < 1500) (he : bm_gi w0 (m + 9) i = e) (hE : q_node m w0 e E dp) (ho : op = 0 ∨ op = 1) (hd : dp + 1 ≤ d) (hf : q_fr (fun a => a = m ∨ a = m + 28 ∨ a = m + 29) w0 w) (h36 : bm_gi w m 36 = 0)
    (h1 : (op = 0 ↔ ¬ x = 0) → Φ (.inl (some (bm_l (if x = 0 then 0 else 1)))) w)
    (hS : ¬ (op = 0 ↔ ¬ x = 0) → ∀ y, (E (q_abc a b c) ch).1 = some y → ∀ w' : bm_W, md_Q m (E (q_abc a b c) ch).2 w w' → bm_gi w' m 36 = 0 → Φ (.inl (some (bm_l (if y = 0 then 0 else 1)))) w')
    (hN : ¬ (op = 0 ↔ ¬ x = 0) → (E (q_abc a b c) ch).1 = none → ∀ w' : bm_W, md_Q m (E (q_abc a b c) ch).2 w w' → bm_gi w' m 36 = 1 → Φ (.inl (some (bm_l 0))) w') : bm_Call bm_pg (d + 1) y_X12_both [bm_r (some m), bm_i (i : Int), bm_i op, bm_l x, bm_l a, bm_l b, bm_l c, bm_i ch] w Φ := by
  obtain ⟨d, rfl⟩ : ∃ d', d = d' + 1 := ⟨d - 1, by omega⟩
  have hM : sh_Md m w := h.fr hf
  have g9 : bm_gi w (m + 9) i = bm_gi w0 (m + 9) i := hf.gi (by omega)
  have key : ¬ (op = 0 ↔ ¬ x = 0) → bk_X12_both_25 (d + 1) Φ m (i : Int) op x a b c ch w := by
    intro z
    refine vb_X12_both_25 ?_
    simp only [bm_c0_v, bm_c1_v, bm_c2_v, bm_c3_v, bm_c4_v, bm_c5_v, bm_u_some, decide_eq_true_eq, true_and, and_true, and_self, Bool.not_eq_true, Bool.not_eq_true', decide_eq_false_iff_not, if_true, if_false, ite_true, ite_false, eq_self, hM.1, hM.g14, hM.t14, hM.n14, bm_in, Int.toNat_natCast, g9, he]
    refine ⟨by omega, ?_⟩
    refine hE (d + 1) _ a b c ch w (by omega) hf h36 (fun y hy w' hQ h5 => ?_) (fun hy w' hQ h5 => ?_)
    · have hM' : sh_Md m w' := hM.fr hQ.1
      have q := hS z y hy w' hQ h5
      simp only [bm_c0_v, bm_c1_v, bm_c2_v, bm_c3_v, bm_c4_v, bm_c5_v, bm_u_some, decide_eq_true_eq, true_and, and_true, and_self, Bool.not_eq_true, Bool.not_eq_true', decide_eq_false_iff_not, if_true, if_false, ite_true, ite_false, eq_self, hM'.1, h5, mp_truth]
      rcases ho with rfl | rfl <;> grind
    · have hM' : sh_Md m w' := hM.fr hQ.1
      simp only [bm_c0_v, bm_c1_v, bm_c2_v, bm_c3_v, bm_c4_v, bm_c5_v, bm_u_some, decide_eq_true_eq, true_and, and_true, and_self, Bool.not_eq_true, Bool.not_eq_true', decide_eq_false_iff_not, if_true, if_false, ite_true, ite_false, eq_self, hM'.1, h5]
      rw [if_neg (by decide)]
      exact hN z hy w' hQ h5
  refine vc_X12_both ?_
  rcases ho with rfl | rfl
  · by_cases x0 : x = 0
    · have := key (by simp [x0])
      simp only [bm_c0_v, bm_c1_v, bm_c2_v, bm_c3_v, bm_c4_v, bm_c5_v, bm_u_some, decide_eq_true_eq, true_and, and_true, and_self, Bool.not_eq_true, Bool.not_eq_true', decide_eq_false_iff_not, if_true, if_false, ite_true, ite_false, eq_self, x0, Int.reduceEq, not_true_eq_false, not_false_eq_true] at this ⊢
      exact this
    · have := h1 (by simp [x0])
      simp only [bm_c0_v, bm_c1_v, bm_c2_v, bm_c3_v, bm_c4_v, bm_c5_v, bm_u_some, decide_eq_true_eq, true_and, and_true, and_self, Bool.not_eq_true, Bool.not_eq_true', decide_eq_false_iff_not, if_true, if_false, ite_true, ite_false, eq_self, x0, Int.reduceEq, not_true_eq_false, not_false_eq_true] at this ⊢
      exact this
  · by_cases x0 : x = 0
    · have := h1 (by simp [x0])
      simp only [bm_c0_v, bm_c1_v, bm_c2_v, bm_c3_v, bm_c4_v, bm_c5_v, bm_u_some, decide_eq_true_eq, true_and, and_true, and_self, Bool.not_eq_true, Bool.not_eq_true', decide_eq_false_iff_not, if_true, if_false, ite_true, ite_false, eq_self, x0, Int.reduceEq, not_true_eq_false, not_false_eq_true] at this ⊢
      exact this
    · have := key (by simp [x0])
      simp only [bm_c0_v, bm_c1_v, bm_c2_v, bm_c3_v, bm_c4_v, bm_c5_v, bm_u_some, decide_eq_true_eq, true_and, and_true, and_self, Bool.not_eq_true, Bool.not_eq_true', decide_eq_false_iff_not, if_true, if_false, ite_true, ite_false, eq_self, x0, Int.reduceEq, not_true_eq_false, not_false_eq_true] at this ⊢
      exact this
theorem nd_lo {m i dp : Nat} {w0 : bm_W} {e1 e2 : Int} {D E : q_D} (h : sh_Md m w0) (hi : i < 1500) (hk : bm_gi w0 (m + 7) i = 5) (ho : bm_gi w0 (m + 11) i = 0 ∨ bm_gi w0 (m + 11) i = 1) (h1 : bm_gi w0 (m + 8) i = e1) (h2 : bm_gi w0 (m + 9) i = e2) (hD : q_node m w0 e1 D dp) (hE : q_node m w0 e2 E dp) : q_node m w0 (i : Int) (d_lo (if bm_gi w0 (m + 11) i = 0 then 10 else 9) (bm_gi w0 (m + 12) i) D E) (dp + 3) := by
  intro d Φ a b c ch w hd hf h36 hS hN
  obtain ⟨d, rfl⟩ : ∃ d', d = d' + 3 := ⟨d - 3, by omega⟩
  have hM : sh_Md m w := h.fr hf
  have g7 : bm_gi w (m + 7) i = bm_gi w0 (m + 7) i := hf.gi (by omega)
  have g8 : bm_gi w (m + 8) i = bm_gi w0 (m + 8) i := hf.gi (by omega)
  have g12 : bm_gi w (m + 12) i = bm_gi w0 (m + 12) i := hf.gi (by omega)
  refine nd_step (d := d + 2) hM hi (vb_X12_worth_30 ?_)
  rw [g7, hk, g12]
  simp only [bm_c0_v, bm_c1_v, bm_c2_v, bm_c3_v, bm_c4_v, bm_c5_v, bm_u_some, decide_eq_true_eq, true_and, and_true, and_self, Bool.not_eq_true, Bool.not_eq_true', decide_eq_false_iff_not, if_true, if_false, ite_true, ite_false, eq_self, hM.1, hM.g13, hM.t13, hM.n13, bm_in, Int.toNat_natCast, g8, h1, Int.reduceEq, not_false_eq_true]
  refine ⟨by omega, ?_⟩
  refine hD (d + 2) _ a b c ch w (by omega) hf h36 (fun x hx w1 hQ h5 => ?_) (fun hx w1 hQ h5 => ?_)
  · have hM1 : sh_Md m w1 := hM.fr hQ.1
    have hf1 := hf.tr hQ.1
    have g11 : bm_gi w1 (m + 11) i = bm_gi w0 (m + 11) i := hf1.gi (by omega)
    simp only [bm_c0_v, bm_c1_v, bm_c2_v, bm_c3_v, bm_c4_v, bm_c5_v, bm_u_some, decide_eq_true_eq, true_and, and_true, and_self, Bool.not_eq_true, Bool.not_eq_true', decide_eq_false_iff_not, if_true, if_false, ite_true, ite_false, eq_self, hM1.1, hM1.g16, hM1.t16, hM1.n16, bm_in, Int.toNat_natCast, h5, Int.reduceEq, not_false_eq_true, not_true_eq_false, g11, mp_changed (d := d + 1) (op := bm_gi w0 (m + 11) i) ⟨by omega, by omega⟩]
    have fin : ∀ op : Int, (op = 0 ∨ op = 1) → (op = 0 ↔ (bm_gi w0 (m + 11) i = 0 ↔ ¬ (¬ ch = -1 ∧ bm_gi w0 (m + 12) i = ch))) → bm_Call bm_pg (d + 2) y_X12_both [bm_r (some m), bm_i (i : Int), bm_i op, bm_l x, bm_l a, bm_l b, bm_l c, bm_i ch] w1 (fun r w2 => bm_c2 (fun x2 => Φ (.inl (some (bm_l x2))) w2) (fun E => Φ (.inr E) w2) r) := by
      intro op ho2 heq
      unfold d_lo at hS hN
      rw [hx] at hS hN
      dsimp only at hS hN
      have hc : ((x = 0) = (((if bm_gi w0 (m + 11) i = 0 then (10 : Int) else 9) = 9) = ¬ (¬ ch = -1 ∧ bm_gi w0 (m + 12) i = ch))) ↔ (op = 0 ↔ ¬ x = 0) := by
        rw [heq]
        rcases ho with ho | ho <;> rw [ho] <;> simp <;> by_cases z : x = 0 <;> simp [z] <;> grind
      refine mp_both_lo (d := d + 1) h hi h2 hE ho2 (by omega) hf1 h5 (fun z => ?_) (fun z y hy w2 hQ2 h52 => ?_) (fun z hy w2 hQ2 h52 => ?_)
      · rw [if_pos (hc.mpr z)] at hS
        exact hS _ rfl w1 hQ h5
      · rw [if_neg (fun zz => z (hc.mp zz)), hy] at hS
        exact hS _ rfl w2 (hQ.tr hQ2) h52
      · rw [if_neg (fun zz => z (hc.mp zz)), hy] at hN
        exact hN rfl w2 (hQ.tr hQ2) h52
    by_cases z : ¬ ch = -1 ∧ bm_gi w0 (m + 12) i = ch
    · rw [if_pos z, if_neg (by decide)]
      refine ⟨by omega, fin _ (by rcases ho with ho | ho <;> rw [ho] <;> decide) ?_⟩
      rcases ho with ho | ho <;> rw [ho] <;> simp [z, t_mchg]
    · rw [if_neg z, if_pos rfl]
      exact ⟨by omega, fin _ ho (by rcases ho with ho | ho <;> rw [ho] <;> simp [z])⟩
  · have hM1 : sh_Md m w1 := hM.fr hQ.1
    simp only [bm_c0_v, bm_c1_v, bm_c2_v, bm_c3_v, bm_c4_v, bm_c5_v, bm_u_some, decide_eq_true_eq, true_and, and_true, and_self, Bool.not_eq_true, Bool.not_eq_true', decide_eq_false_iff_not, if_true, if_false, ite_true, ite_false, eq_self, hM1.1, h5]
    rw [if_neg (by decide)]
    unfold d_lo at hN
    rw [hx] at hN
    exact hN rfl w1 hQ h5
