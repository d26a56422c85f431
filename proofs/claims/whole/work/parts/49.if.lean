/-! ===== what nodes of the model come to: if ===== -/
theorem md_Q.cnt {m j : Nat} {w : bm_W} {b : Bool} (h1 : ¬ bm_gi w m 37 = 0) (hj : j < 54) : md_Q m [((j : Int), b)] w (bm_si w (m + (if b = true then 28 else 29)) j (bm_w (bm_gi w (m + (if b = true then 28 else 29)) j + 1))) := by
  have key : ∀ b' : Bool, ∀ x, bm_gi (bm_si w (m + (if b = true then 28 else 29)) j (bm_w (bm_gi w (m + (if b = true then 28 else 29)) j + 1))) (m + (if b' = true then 28 else 29)) x = q_bump (bm_gi w m 37) b' [((j : Int), b)] (bm_gi w (m + (if b' = true then 28 else 29))) x := by
    intro b' x
    have e1 : (0 : Int) ≤ (j : Int) := by omega
    have e2 : (j : Int) < 54 := by omega
    cases b <;> cases b' <;> simp [q_bump, bm_si_gi, h1, e2]
    all_goals (try split) <;> simp_all
  refine ⟨q_fr.rf.si (by cases b <;> simp), fun k hk => q_gi_ne (by cases b <;> simp <;> omega), fun _ => rfl, key true, key false⟩
theorem nd_if {m i j dp : Nat} {w0 : bm_W} {e1 e2 e3 : Int} {D T E : q_D} (h : sh_Md m w0) (hi : i < 1500) (hk : bm_gi w0 (m + 7) i = 6) (hj : bm_gi w0 (m + 11) i = (j : Int)) (hj5 : j < 54) (h1 : bm_gi w0 (m + 8) i = e1) (h2 : bm_gi w0 (m + 9) i = e2) (h3 : bm_gi w0 (m + 10) i = e3) (hD : q_node m w0 e1 D dp) (hT : q_node m w0 e2 T dp) (hE : q_node m w0 e3 E dp) : q_node m w0 (i : Int) (d_if (j : Int) (bm_gi w0 (m + 12) i) D T E) (dp + 3) := by
  intro d Φ a b c ch w hd hf h36 hS hN
  obtain ⟨d, rfl⟩ : ∃ d', d = d' + 3 := ⟨d - 3, by omega⟩
  have hM : sh_Md m w := h.fr hf
  have g7 : bm_gi w (m + 7) i = bm_gi w0 (m + 7) i := hf.gi (by omega)
  have g8 : bm_gi w (m + 8) i = bm_gi w0 (m + 8) i := hf.gi (by omega)
  have g12 : bm_gi w (m + 12) i = bm_gi w0 (m + 12) i := hf.gi (by omega)
  refine nd_step (d := d + 2) hM hi (vb_X12_worth_30 ?_)
  rw [g7, hk, g12]
  simp only [bm_c0_v, bm_c1_v, bm_c2_v, bm_c3_v, bm_c4_v, bm_c5_v, bm_u_some, decide_eq_true_eq, true_and, and_true, and_self, Bool.not_eq_true, Bool.not_eq_true', decide_eq_false_iff_not, if_true, if_false, ite_true, ite_false, eq_self, hM.1, hM.g13, hM.t13, hM.n13, bm_in, Int.toNat_natCast, g8, h1, Int.reduceEq, not_false_eq_true]
  refine ⟨by omega, ?_⟩
  refine hD (d + 2) _ a b c ch w (by omega) hf h36 (fun x hx w1 hQ h5 => ?_) (fun hx w1 hQ h5 => ?_)
  · have hM1 : sh_Md m w1 := hM.fr hQ.1
    have hf1 := hf.tr hQ.1
    have g11 : bm_gi w1 (m + 11) i = (j : Int) := (hf1.gi (by omega)).trans hj
    have g37 : bm_gi w1 m 37 = bm_gi w1 m 37 := rfl
    simp only [bm_c0_v, bm_c1_v, bm_c2_v, bm_c3_v, bm_c4_v, bm_c5_v, bm_u_some, decide_eq_true_eq, true_and, and_true, and_self, Bool.not_eq_true, Bool.not_eq_true', decide_eq_false_iff_not, if_true, if_false, ite_true, ite_false, eq_self, hM1.1, h5]
    unfold d_if at hS hN
    rw [hx] at hS hN
    dsimp only at hS hN
    have kT : ∀ wB : bm_W, md_Q m [((j : Int), true)] w1 wB → bm_gi wB m 36 = 0 → ¬ ((x = 0) = ¬ (¬ ch = -1 ∧ bm_gi w0 (m + 12) i = ch)) → bm_Call bm_pg (d + 2) y_X12_worth [bm_r (some m), bm_i e2, bm_l a, bm_l b, bm_l c, bm_i ch] wB (fun r w2 => bm_c2 (fun x2 => Φ (.inl (some (bm_l x2))) w2) (fun E => Φ (.inr E) w2) r) := by
      intro wB q1 q5 z
      rw [if_neg z] at hS hN
      refine hT (d + 2) _ a b c ch wB (by omega) (hf1.tr q1.1) q5 (fun y hy w2 hQ2 h52 => ?_) (fun hy w2 hQ2 h52 => ?_)
      · have := hQ.tr (q1.tr hQ2)
        rw [bm_c2_v]
        exact hS y hy w2 this h52
      · have := hQ.tr (q1.tr hQ2)
        rw [bm_c2_v]
        exact hN hy w2 this h52
    have kE : ∀ wB : bm_W, md_Q m [((j : Int), false)] w1 wB → bm_gi wB m 36 = 0 → ((x = 0) = ¬ (¬ ch = -1 ∧ bm_gi w0 (m + 12) i = ch)) → bm_Call bm_pg (d + 2) y_X12_worth [bm_r (some m), bm_i e3, bm_l a, bm_l b, bm_l c, bm_i ch] wB (fun r w2 => bm_c2 (fun x2 => Φ (.inl (some (bm_l x2))) w2) (fun E => Φ (.inr E) w2) r) := by
      intro wB q1 q5 z
      rw [if_pos z] at hS hN
      refine hE (d + 2) _ a b c ch wB (by omega) (hf1.tr q1.1) q5 (fun y hy w2 hQ2 h52 => ?_) (fun hy w2 hQ2 h52 => ?_)
      · have := hQ.tr (q1.tr hQ2)
        rw [bm_c2_v]
        exact hS y hy w2 this h52
      · have := hQ.tr (q1.tr hQ2)
        rw [bm_c2_v]
        exact hN hy w2 this h52
    have r9 : ∀ wB : bm_W, q_fr (fun a => a = m ∨ a = m + 28 ∨ a = m + 29) w1 wB → sh_Md m wB ∧ bm_gi wB (m + 9) i = e2 ∧ bm_gi wB (m + 10) i = e3 ∧ bm_gi wB (m + 11) i = (j : Int) := fun wB q => ⟨hM1.fr q, ((hf1.tr q).gi (by omega)).trans h2, ((hf1.tr q).gi (by omega)).trans h3, (q.gi (by omega)).trans g11⟩
    have c0 : ∀ t : Bool, bm_gi w1 m 37 = 0 → md_Q m [((j : Int), t)] w1 w1 := by
      intro t z
      refine ⟨q_fr.rf, fun _ _ => rfl, fun _ => rfl, fun x => ?_, fun x => ?_⟩ <;> simp [q_bump, z]
    have KT : ¬ ((x = 0) = ¬ (¬ ch = -1 ∧ bm_gi w0 (m + 12) i = ch)) → bk_X12_worth_228 (d + 2) Φ m (i : Int) a b c ch (if ¬ ch = -1 ∧ bm_gi w0 (m + 12) i = ch then 1 else 0) (if x = 0 then 0 else 1) w1 := by
      intro z
      have z1 : ¬ ((if x = 0 then (0 : Int) else 1) = (if ¬ ch = -1 ∧ bm_gi w0 (m + 12) i = ch then 1 else 0)) := by
        intro y
        apply z
        by_cases z1 : x = 0 <;> by_cases z2 : (¬ ch = -1 ∧ bm_gi w0 (m + 12) i = ch)
        all_goals simp only [z1, z2, if_true, if_false] at y
        all_goals simp [z1, z2] at y ⊢
      refine vb_X12_worth_228 ?_
      simp only [bm_c0_v, bm_c1_v, bm_c2_v, bm_c3_v, bm_c4_v, bm_c5_v, bm_u_some, decide_eq_true_eq, true_and, and_true, and_self, Bool.not_eq_true, Bool.not_eq_true', decide_eq_false_iff_not, if_true, if_false, ite_true, ite_false, eq_self, hM1.1, hM1.g16, hM1.t16, hM1.n16, hM1.g38, hM1.t38, hM1.n38, bm_in, Int.toNat_natCast, g11, z1, Int.reduceEq]
      by_cases n37 : bm_gi w1 m 37 = 0
      · rw [if_pos n37]
        obtain ⟨s, t2, t3, t4⟩ := r9 w1 q_fr.rf
        refine vb_X12_worth_267 ?_
        simp only [bm_c0_v, bm_c1_v, bm_c2_v, bm_c3_v, bm_c4_v, bm_c5_v, bm_u_some, decide_eq_true_eq, true_and, and_true, and_self, Bool.not_eq_true, Bool.not_eq_true', decide_eq_false_iff_not, if_true, if_false, ite_true, ite_false, eq_self, s.1, s.g14, s.t14, s.n14, s.g15, s.t15, s.n15, bm_in, Int.toNat_natCast, n37, t2, Int.reduceEq]
        exact ⟨by omega, kT w1 (c0 true n37) h5 z⟩
      · rw [if_neg n37]
        have q1 := md_Q.cnt (b := true) n37 hj5
        simp only [if_true] at q1
        obtain ⟨s, t2, t3, t4⟩ := r9 _ q1.1
        refine ⟨by omega, by omega, by omega, vb_X12_worth_267 ?_⟩
        have k37 := (q1.2.1 37 (by decide))
        have k36 := (q_gi_ne (w := w1) (b := m) (j := 36) (a := m + 28) (k := j) (v := bm_w (bm_gi w1 (m + 28) j + 1)) (by omega)).trans h5
        have kk := kT _ q1 k36 z
        generalize bm_si w1 (m + 28) j (bm_w (bm_gi w1 (m + 28) j + 1)) = wB at q1 s t2 t3 t4 k37 kk ⊢
        simp only [bm_c0_v, bm_c1_v, bm_c2_v, bm_c3_v, bm_c4_v, bm_c5_v, bm_u_some, decide_eq_true_eq, true_and, and_true, and_self, Bool.not_eq_true, Bool.not_eq_true', decide_eq_false_iff_not, if_true, if_false, ite_true, ite_false, eq_self, s.1, s.g14, s.t14, s.n14, s.g15, s.t15, s.n15, bm_in, Int.toNat_natCast, k37, n37, t2, Int.reduceEq, not_true_eq_false, not_false_eq_true]
        exact ⟨by omega, kk⟩
    have KE : ((x = 0) = ¬ (¬ ch = -1 ∧ bm_gi w0 (m + 12) i = ch)) → bk_X12_worth_228 (d + 2) Φ m (i : Int) a b c ch (if ¬ ch = -1 ∧ bm_gi w0 (m + 12) i = ch then 1 else 0) (if x = 0 then 0 else 1) w1 := by
      intro z
      have z1 : ((if x = 0 then (0 : Int) else 1) = (if ¬ ch = -1 ∧ bm_gi w0 (m + 12) i = ch then 1 else 0)) := by
        by_cases z1 : x = 0 <;> by_cases z2 : (¬ ch = -1 ∧ bm_gi w0 (m + 12) i = ch)
        all_goals simp [z1, z2] at z ⊢
      refine vb_X12_worth_228 ?_
      simp only [bm_c0_v, bm_c1_v, bm_c2_v, bm_c3_v, bm_c4_v, bm_c5_v, bm_u_some, decide_eq_true_eq, true_and, and_true, and_self, Bool.not_eq_true, Bool.not_eq_true', decide_eq_false_iff_not, if_true, if_false, ite_true, ite_false, eq_self, hM1.1, hM1.g16, hM1.t16, hM1.n16, hM1.g38, hM1.t38, hM1.n38, bm_in, Int.toNat_natCast, g11, z1, Int.reduceEq]
      obtain ⟨s, t2, t3, t4⟩ := r9 w1 q_fr.rf
      by_cases n37 : bm_gi w1 m 37 = 0
      · rw [if_pos n37]
        refine vb_X12_worth_267 ?_
        simp only [bm_c0_v, bm_c1_v, bm_c2_v, bm_c3_v, bm_c4_v, bm_c5_v, bm_u_some, decide_eq_true_eq, true_and, and_true, and_self, Bool.not_eq_true, Bool.not_eq_true', decide_eq_false_iff_not, if_true, if_false, ite_true, ite_false, eq_self, s.1, s.g14, s.t14, s.n14, s.g15, s.t15, s.n15, bm_in, Int.toNat_natCast, n37, t3, Int.reduceEq]
        exact ⟨by omega, kE w1 (c0 false n37) h5 z⟩
      · rw [if_neg n37]
        have q1 := md_Q.cnt (b := false) n37 hj5
        rw [if_neg (by decide)] at q1
        obtain ⟨s1, u2, u3, u4⟩ := r9 _ q1.1
        have k36 := (q_gi_ne (w := w1) (b := m) (j := 36) (a := m + 29) (k := j) (v := bm_w (bm_gi w1 (m + 29) j + 1)) (by omega)).trans h5
        have kk := kE _ q1 k36 z
        refine vb_X12_worth_267 ?_
        simp only [bm_c0_v, bm_c1_v, bm_c2_v, bm_c3_v, bm_c4_v, bm_c5_v, bm_u_some, decide_eq_true_eq, true_and, and_true, and_self, Bool.not_eq_true, Bool.not_eq_true', decide_eq_false_iff_not, if_true, if_false, ite_true, ite_false, eq_self, s.1, s.g16, s.t16, s.n16, s.g39, s.t39, s.n39, bm_in, Int.toNat_natCast, n37, t4, Int.reduceEq, not_true_eq_false, not_false_eq_true]
        refine ⟨by omega, by omega, by omega, ?_⟩
        generalize bm_si w1 (m + 29) j (bm_w (bm_gi w1 (m + 29) j + 1)) = wB at q1 s1 u2 u3 u4 kk ⊢
        simp only [bm_c0_v, bm_c1_v, bm_c2_v, bm_c3_v, bm_c4_v, bm_c5_v, bm_u_some, decide_eq_true_eq, true_and, and_true, and_self, Bool.not_eq_true, Bool.not_eq_true', decide_eq_false_iff_not, if_true, if_false, ite_true, ite_false, eq_self, s1.1, s1.g14, s1.t14, s1.n14, s1.g15, s1.t15, s1.n15, bm_in, Int.toNat_natCast, u3]
        exact ⟨by omega, kk⟩
    by_cases x0 : x = 0
    · rw [if_pos x0]
      have A1 := KT
      have A2 := KE
      rw [if_pos x0] at A1 A2
      by_cases z : ((x = 0) = ¬ (¬ ch = -1 ∧ bm_gi w0 (m + 12) i = ch))
      · exact A2 z
      · exact A1 z
    · rw [if_neg x0]
      have A1 := KT
      have A2 := KE
      rw [if_neg x0] at A1 A2
      by_cases z : ((x = 0) = ¬ (¬ ch = -1 ∧ bm_gi w0 (m + 12) i = ch))
      · exact A2 z
      · exact A1 z
  · have hM1 : sh_Md m w1 := hM.fr hQ.1
    simp only [bm_c0_v, bm_c1_v, bm_c2_v, bm_c3_v, bm_c4_v, bm_c5_v, bm_u_some, decide_eq_true_eq, true_and, and_true, and_self, Bool.not_eq_true, Bool.not_eq_true', decide_eq_false_iff_not, if_true, if_false, ite_true, ite_false, eq_self, hM1.1, h5]
    rw [if_neg (by decide)]
    unfold d_if at hN
    rw [hx] at hN
    exact hN rfl w1 hQ h5
