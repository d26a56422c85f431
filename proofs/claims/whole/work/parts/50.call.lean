/-! ===== what nodes of the model come to: calls ===== -/
theorem q_abc_1 (x : Int) : (fun i => [x].getD i 0) = q_abc x 0 0 := by
  funext j
  match j with
  | 0 => rfl
  | 1 => rfl
  | 2 => rfl
  | _ + 3 => rfl
theorem q_abc_2 (x y : Int) : (fun i => [x, y].getD i 0) = q_abc x y 0 := by
  funext j
  match j with
  | 0 => rfl
  | 1 => rfl
  | 2 => rfl
  | _ + 3 => rfl
theorem q_abc_3 (x y z : Int) : (fun i => [x, y, z].getD i 0) = q_abc x y z := by
  funext j
  match j with
  | 0 => rfl
  | 1 => rfl
  | 2 => rfl
  | _ + 3 => rfl
theorem nd_66f {d m : Nat} {i a b c ch k x y : Int} {w : bm_W} {Φ : bm_Rt → bm_W → Prop} (h : sh_Md m w) (h5 : bm_gi w m 36 = 1) (q : Φ (.inl (some (bm_l 0))) w) : bk_X12_called_66 d Φ m i a b c ch k x y w := by
  refine vb_X12_called_66 ?_
  simp only [bm_c0_v, bm_c1_v, bm_c2_v, bm_c3_v, bm_c4_v, bm_c5_v, bm_u_some, decide_eq_true_eq, true_and, and_true, and_self, Bool.not_eq_true, Bool.not_eq_true', decide_eq_false_iff_not, if_true, if_false, ite_true, ite_false, eq_self, h.1, h5, Int.reduceEq, not_false_eq_true]
  split <;> exact q
theorem nd_66t {d m i g : Nat} {a b c ch k x y : Int} {w : bm_W} {Φ : bm_Rt → bm_W → Prop} (h : sh_Md m w) (hi : i < 1500) (h5 : bm_gi w m 36 = 0) (hg : bm_gi w (m + 11) i = (g : Int)) (hg6 : g < 6) (hk : k ≤ 2) (q : bm_Call bm_pg d y_X12_worth [bm_r (some m), bm_i (bm_gi w (m + 18) g), bm_l x, bm_l y, bm_l 0, bm_i (-1)] w (fun r w2 => bm_c2 (fun x2 => Φ (.inl (some (bm_l x2))) w2) (fun E => Φ (.inr E) w2) r)) : bk_X12_called_66 d Φ m (i : Int) a b c ch k x y w := by
  refine vb_X12_called_66 ?_
  simp only [bm_c0_v, bm_c1_v, bm_c2_v, bm_c3_v, bm_c4_v, bm_c5_v, bm_u_some, decide_eq_true_eq, true_and, and_true, and_self, Bool.not_eq_true, Bool.not_eq_true', decide_eq_false_iff_not, if_true, if_false, ite_true, ite_false, eq_self, h.1, h.g16, h.t16, h.n16, h.g24, h.t24, h.n24, bm_in, Int.toNat_natCast, h5, hg, hk]
  exact ⟨by omega, by omega, q⟩
section ND
variable {m i g dp : Nat} {w0 : bm_W} {e : Int} {F : q_D}
/-- the rows of a call that all numbers of arguments share: the first argument -/
theorem nd_call0 {k e1 : Int} {D : q_D} (h : sh_Md m w0) (hi : i < 1500) (hk : bm_gi w0 (m + 7) i = 2) (hg : bm_gi w0 (m + 11) i = (g : Int)) (hg6 : g < 6) (hin : bm_gi w0 (m + 14) g = k) (h1 : bm_gi w0 (m + 8) i = e1) (hD : q_node m w0 e1 D dp) {d : Nat} {Φ : bm_Rt → bm_W → Prop} {a b c ch : Int} {w : bm_W} (hd : dp ≤ d) (hf : q_fr (fun a => a = m ∨ a = m + 28 ∨ a = m + 29) w0 w) (h36 : bm_gi w m 36 = 0)
    (hN : (D (q_abc a b c) ch).1 = none → ∀ w' : bm_W, md_Q m (D (q_abc a b c) ch).2 w w' → bm_gi w' m 36 = 1 → Φ (.inl (some (bm_l 0))) w')
    (hS : ∀ x, (D (q_abc a b c) ch).1 = some x → ∀ w1 : bm_W, md_Q m (D (q_abc a b c) ch).2 w w1 → bm_gi w1 m 36 = 0 →
      (if k ≤ 1 then bk_X12_called_66 d (fun r w2 => bm_c2 (fun x2 => Φ (.inl (some (bm_l x2))) w2) (fun E => Φ (.inr E) w2) r) m (i : Int) a b c ch k x 0 w1 else bm_Call bm_pg d y_X12_worth [bm_r (some m), bm_i (bm_gi w0 (m + 9) i), bm_l a, bm_l b, bm_l c, bm_i ch] w1 (fun r2 w2 => bm_c2 (fun x2 => bk_X12_called_66 d (fun r w2 => bm_c2 (fun x2 => Φ (.inl (some (bm_l x2))) w2) (fun E => Φ (.inr E) w2) r) m (i : Int) a b c ch k x x2 w2) (fun E => bm_c2 (fun x2 => Φ (.inl (some (bm_l x2))) w2) (fun E => Φ (.inr E) w2) (.inr E)) r2))) :
    bm_Call bm_pg (d + 2) y_X12_worth [bm_r (some m), bm_i (i : Int), bm_l a, bm_l b, bm_l c, bm_i ch] w Φ := by
  have hM : sh_Md m w := h.fr hf
  have g7 : bm_gi w (m + 7) i = bm_gi w0 (m + 7) i := hf.gi (by omega)
  have g8 : bm_gi w (m + 8) i = bm_gi w0 (m + 8) i := hf.gi (by omega)
  have g11 : bm_gi w (m + 11) i = (g : Int) := (hf.gi (by omega)).trans hg
  have g14 : bm_gi w (m + 14) g = k := (hf.gi (by omega)).trans hin
  refine nd_step (d := d + 1) hM hi (vb_X12_worth_30 ?_)
  generalize (if ¬ ch = -1 ∧ bm_gi w (m + 12) i = ch then (1 : Int) else 0) = s0
  rw [g7, hk]
  simp only [bm_c0_v, bm_c1_v, bm_c2_v, bm_c3_v, bm_c4_v, bm_c5_v, bm_u_some, decide_eq_true_eq, true_and, and_true, and_self, Bool.not_eq_true, Bool.not_eq_true', decide_eq_false_iff_not, if_true, if_false, ite_true, ite_false, eq_self, hM.1, Int.reduceEq, not_false_eq_true, not_true_eq_false]
  refine vc_X12_called ?_
  simp only [bm_c0_v, bm_c1_v, bm_c2_v, bm_c3_v, bm_c4_v, bm_c5_v, bm_u_some, decide_eq_true_eq, true_and, and_true, and_self, Bool.not_eq_true, Bool.not_eq_true', decide_eq_false_iff_not, if_true, if_false, ite_true, ite_false, eq_self, hM.1, hM.g13, hM.t13, hM.n13, hM.g16, hM.t16, hM.n16, hM.g20, hM.t20, hM.n20, bm_in, Int.toNat_natCast, g8, h1, g11, g14]
  refine ⟨by omega, by omega, by omega, ?_⟩
  refine hD d _ a b c ch w hd hf h36 (fun x hx w1 hQ h5 => ?_) (fun hx w1 hQ h5 => ?_)
  · have hM1 : sh_Md m w1 := hM.fr hQ.1
    have g9 : bm_gi w1 (m + 9) i = bm_gi w0 (m + 9) i := (hf.tr hQ.1).gi (by omega)
    have q := hS x hx w1 hQ h5
    rw [bm_c2_v]
    by_cases z : k ≤ 1
    · rw [if_pos z] at q
      rw [if_pos (by simpa using z)]
      exact q
    · rw [if_neg z] at q
      rw [if_neg (by simpa using z)]
      simp only [bm_c0_v, bm_c1_v, bm_c2_v, bm_c3_v, bm_c4_v, bm_c5_v, bm_u_some, decide_eq_true_eq, true_and, and_true, and_self, Bool.not_eq_true, Bool.not_eq_true', decide_eq_false_iff_not, if_true, if_false, ite_true, ite_false, eq_self, hM1.1, hM1.g14, hM1.t14, hM1.n14, bm_in, Int.toNat_natCast, h5, g9, Int.reduceEq, not_true_eq_false]
      exact ⟨by omega, q⟩
  · have hM1 : sh_Md m w1 := hM.fr hQ.1
    rw [bm_c2_v]
    have q := hN hx w1 hQ h5
    have fin : ∀ y, bk_X12_called_66 d (fun r w2 => bm_c2 (fun x2 => Φ (.inl (some (bm_l x2))) w2) (fun E => Φ (.inr E) w2) r) m (i : Int) a b c ch k 0 y w1 := fun y => nd_66f hM1 h5 q
    split
    · exact fin _
    · simp only [bm_c0_v, bm_c1_v, bm_c2_v, bm_c3_v, bm_c4_v, bm_c5_v, bm_u_some, decide_eq_true_eq, true_and, and_true, and_self, Bool.not_eq_true, Bool.not_eq_true', decide_eq_false_iff_not, if_true, if_false, ite_true, ite_false, eq_self, hM1.1, h5, Int.reduceEq, not_false_eq_true]
      exact fin _
theorem nd_call1 {e1 : Int} {D : q_D} (h : sh_Md m w0) (hi : i < 1500) (hk : bm_gi w0 (m + 7) i = 2) (hg : bm_gi w0 (m + 11) i = (g : Int)) (hg6 : g < 6) (hin : bm_gi w0 (m + 14) g = 1) (ht : bm_gi w0 (m + 18) g = e) (h1 : bm_gi w0 (m + 8) i = e1) (hD : q_node m w0 e1 D dp) (hF : q_node m w0 e F dp) : q_node m w0 (i : Int) (d_call F [D]) (dp + 2) := by
  intro d Φ a b c ch w hd hf h36 hS hN
  obtain ⟨d, rfl⟩ : ∃ d', d = d' + 2 := ⟨d - 2, by omega⟩
  have hM : sh_Md m w := h.fr hf
  simp only [d_call, d_args] at hS hN
  refine nd_call0 h hi hk hg hg6 hin h1 hD (by omega) hf h36 (fun hx w1 hQ h5 => ?_) (fun x hx w1 hQ h5 => ?_)
  · rw [hx] at hN
    exact hN rfl w1 hQ h5
  · rw [hx] at hS hN
    dsimp only at hS hN
    rw [q_abc_1, List.append_nil] at hS hN
    rw [if_pos (by decide)]
    have hf1 := hf.tr hQ.1
    have hM1 : sh_Md m w1 := hM.fr hQ.1
    have g18 : bm_gi w1 (m + 18) g = e := (hf1.gi (by omega)).trans ht
    refine nd_66t hM1 hi h5 ((hf1.gi (by omega)).trans hg) hg6 (by decide) ?_
    rw [g18]
    refine hF d _ x 0 0 (-1) w1 (by omega) hf1 h5 (fun v hv w2 hQ2 h52 => ?_) (fun hv w2 hQ2 h52 => ?_)
    · exact hS v hv w2 (hQ.tr hQ2) h52
    · exact hN hv w2 (hQ.tr hQ2) h52
theorem nd_call2 {e1 e2 : Int} {D E : q_D} (h : sh_Md m w0) (hi : i < 1500) (hk : bm_gi w0 (m + 7) i = 2) (hg : bm_gi w0 (m + 11) i = (g : Int)) (hg6 : g < 6) (hin : bm_gi w0 (m + 14) g = 2) (ht : bm_gi w0 (m + 18) g = e) (h1 : bm_gi w0 (m + 8) i = e1) (h2 : bm_gi w0 (m + 9) i = e2) (hD : q_node m w0 e1 D dp) (hE : q_node m w0 e2 E dp) (hF : q_node m w0 e F dp) : q_node m w0 (i : Int) (d_call F [D, E]) (dp + 2) := by
  intro d Φ a b c ch w hd hf h36 hS hN
  obtain ⟨d, rfl⟩ : ∃ d', d = d' + 2 := ⟨d - 2, by omega⟩
  have hM : sh_Md m w := h.fr hf
  simp only [d_call, d_args] at hS hN
  refine nd_call0 h hi hk hg hg6 hin h1 hD (by omega) hf h36 (fun hx w1 hQ h5 => ?_) (fun x hx w1 hQ h5 => ?_)
  · rw [hx] at hN
    exact hN rfl w1 hQ h5
  · rw [hx] at hS hN
    rw [if_neg (by decide), h2]
    have hf1 := hf.tr hQ.1
    have hM1 : sh_Md m w1 := hM.fr hQ.1
    refine hE d _ a b c ch w1 (by omega) hf1 h5 (fun y hy w2 hQ2 h52 => ?_) (fun hy w2 hQ2 h52 => ?_)
    · rw [hy] at hS hN
      dsimp only at hS hN
      rw [q_abc_2, List.append_nil] at hS hN
      have hf2 := hf1.tr hQ2.1
      have g18 : bm_gi w2 (m + 18) g = e := (hf2.gi (by omega)).trans ht
      rw [bm_c2_v]
      refine nd_66t (hM1.fr hQ2.1) hi h52 ((hf2.gi (by omega)).trans hg) hg6 (by decide) ?_
      rw [g18]
      refine hF d _ x y 0 (-1) w2 (by omega) hf2 h52 (fun v hv w3 hQ3 h53 => ?_) (fun hv w3 hQ3 h53 => ?_)
      · exact hS v hv w3 ((hQ.tr hQ2).tr hQ3) h53
      · exact hN hv w3 ((hQ.tr hQ2).tr hQ3) h53
    · rw [hy] at hN
      rw [bm_c2_v]
      refine nd_66f (hM1.fr hQ2.1) h52 ?_
      have := hN rfl w2 (by have := hQ.tr hQ2; simpa using this) h52
      exact this
theorem nd_call3 {e1 e2 e3 : Int} {D E T : q_D} (h : sh_Md m w0) (hi : i < 1500) (hk : bm_gi w0 (m + 7) i = 2) (hg : bm_gi w0 (m + 11) i = (g : Int)) (hg6 : g < 6) (hin : bm_gi w0 (m + 14) g = 3) (ht : bm_gi w0 (m + 18) g = e) (h1 : bm_gi w0 (m + 8) i = e1) (h2 : bm_gi w0 (m + 9) i = e2) (h3 : bm_gi w0 (m + 10) i = e3) (hD : q_node m w0 e1 D dp) (hE : q_node m w0 e2 E dp) (hT : q_node m w0 e3 T dp) (hF : q_node m w0 e F dp) : q_node m w0 (i : Int) (d_call F [D, E, T]) (dp + 2) := by
  intro d Φ a b c ch w hd hf h36 hS hN
  obtain ⟨d, rfl⟩ : ∃ d', d = d' + 2 := ⟨d - 2, by omega⟩
  have hM : sh_Md m w := h.fr hf
  simp only [d_call, d_args] at hS hN
  refine nd_call0 h hi hk hg hg6 hin h1 hD (by omega) hf h36 (fun hx w1 hQ h5 => ?_) (fun x hx w1 hQ h5 => ?_)
  · rw [hx] at hN
    exact hN rfl w1 hQ h5
  · rw [hx] at hS hN
    rw [if_neg (by decide), h2]
    have hf1 := hf.tr hQ.1
    have hM1 : sh_Md m w1 := hM.fr hQ.1
    refine hE d _ a b c ch w1 (by omega) hf1 h5 (fun y hy w2 hQ2 h52 => ?_) (fun hy w2 hQ2 h52 => ?_)
    · rw [hy] at hS hN
      have hf2 := hf1.tr hQ2.1
      have hM2 := hM1.fr hQ2.1
      rw [bm_c2_v]
      refine vb_X12_called_66 ?_
      have g10 : bm_gi w2 (m + 10) i = e3 := (hf2.gi (by omega)).trans h3
      simp only [bm_c0_v, bm_c1_v, bm_c2_v, bm_c3_v, bm_c4_v, bm_c5_v, bm_u_some, decide_eq_true_eq, true_and, and_true, and_self, Bool.not_eq_true, Bool.not_eq_true', decide_eq_false_iff_not, if_true, if_false, ite_true, ite_false, eq_self, hM2.1, hM2.g15, hM2.t15, hM2.n15, bm_in, Int.toNat_natCast, h52, g10, Int.reduceLE, Int.reduceEq, not_true_eq_false, not_false_eq_true]
      refine ⟨by omega, ?_⟩
      refine hT d _ a b c ch w2 (by omega) hf2 h52 (fun z hz w3 hQ3 h53 => ?_) (fun hz w3 hQ3 h53 => ?_)
      · rw [hz] at hS hN
        dsimp only at hS hN
        rw [q_abc_3, List.append_nil] at hS hN
        have hf3 := hf2.tr hQ3.1
        have hM3 := hM2.fr hQ3.1
        have g18 : bm_gi w3 (m + 18) g = e := (hf3.gi (by omega)).trans ht
        have g11 : bm_gi w3 (m + 11) i = (g : Int) := (hf3.gi (by omega)).trans hg
        simp only [bm_c0_v, bm_c1_v, bm_c2_v, bm_c3_v, bm_c4_v, bm_c5_v, bm_u_some, decide_eq_true_eq, true_and, and_true, and_self, Bool.not_eq_true, Bool.not_eq_true', decide_eq_false_iff_not, if_true, if_false, ite_true, ite_false, eq_self, hM3.1, hM3.g16, hM3.t16, hM3.n16, hM3.g24, hM3.t24, hM3.n24, bm_in, Int.toNat_natCast, h53, g18, g11]
        refine ⟨by omega, by omega, ?_⟩
        refine hF d _ x y z (-1) w3 (by omega) hf3 h53 (fun v hv w4 hQ4 h54 => ?_) (fun hv w4 hQ4 h54 => ?_)
        · have := hS v hv w4 (by have := (hQ.tr (hQ2.tr hQ3)).tr hQ4; simpa using this) h54
          exact this
        · have := hN hv w4 (by have := (hQ.tr (hQ2.tr hQ3)).tr hQ4; simpa using this) h54
          exact this
      · rw [hz] at hN
        have hM3 := hM2.fr hQ3.1
        simp only [bm_c0_v, bm_c1_v, bm_c2_v, bm_c3_v, bm_c4_v, bm_c5_v, bm_u_some, decide_eq_true_eq, true_and, and_true, and_self, Bool.not_eq_true, Bool.not_eq_true', decide_eq_false_iff_not, if_true, if_false, ite_true, ite_false, eq_self, hM3.1, h53]
        rw [if_neg (by decide)]
        have := hN rfl w3 (by have := hQ.tr (hQ2.tr hQ3); simpa using this) h53
        exact this
    · rw [hy] at hN
      rw [bm_c2_v]
      refine nd_66f (hM1.fr hQ2.1) h52 ?_
      have := hN rfl w2 (by have := hQ.tr hQ2; simpa using this) h52
      exact this
end ND
/-- run -/
theorem mp_run {d m g r dp : Nat} {e ch : Int} {F : q_D} {w0 w : bm_W} {Φ : bm_Rt → bm_W → Prop} (h : sh_Md m w0) (hg6 : g < 6) (ht : bm_gi w0 (m + 18) g = e) (hF : q_node m w0 e F dp) (hd : dp ≤ d) (hf : q_fr (fun a => a = m ∨ a = m + 28 ∨ a = m + 29) w0 w) (hr : bm_kt w r = 21 ∧ 3 ≤ bm_kn w r) (hrm : r ≠ m)
    (hS : ∀ v, (F (q_abc (bm_gi w r 0) (bm_gi w r 1) (bm_gi w r 2)) ch).1 = some v → ∀ w' : bm_W, md_Q m (F (q_abc (bm_gi w r 0) (bm_gi w r 1) (bm_gi w r 2)) ch).2 w w' → bm_gi w' m 36 = 0 → Φ (.inl (some (bm_l v))) w')
    (hN : (F (q_abc (bm_gi w r 0) (bm_gi w r 1) (bm_gi w r 2)) ch).1 = none → ∀ w' : bm_W, md_Q m (F (q_abc (bm_gi w r 0) (bm_gi w r 1) (bm_gi w r 2)) ch).2 w w' → bm_gi w' m 36 = 1 → Φ (.inl (some (bm_l 0))) w') : bm_Call bm_pg (d + 1) y_X12_run [bm_r (some m), bm_i (g : Int), bm_r (some r), bm_i ch] w Φ := by
  have hM : sh_Md m w := h.fr hf
  have Q0 : md_Q m [] w (bm_si w m 36 0) := ⟨q_fr.rf.si (Or.inl rfl), fun k hk => q_gi_nk hk, fun _ => rfl, fun j => q_gi_ne (by omega), fun j => q_gi_ne (by omega)⟩
  have hM0 : sh_Md m (bm_si w m 36 0) := hM.fr Q0.1
  have g18 : bm_gi (bm_si w m 36 0) (m + 18) g = e := ((hf.tr Q0.1).gi (by omega)).trans ht
  have k0 : bm_kt (bm_si w m 36 0) r = 21 := hr.1
  have k1 : bm_kn (bm_si w m 36 0) r = bm_kn w r := rfl
  have r0 : ∀ j, bm_gi (bm_si w m 36 0) r j = bm_gi w r j := fun j => q_gi_ne hrm
  refine vc_X12_run ?_
  simp only [bm_c0_v, bm_c1_v, bm_c2_v, bm_c3_v, bm_c4_v, bm_c5_v, bm_u_some, decide_eq_true_eq, true_and, and_true, and_self, Bool.not_eq_true, Bool.not_eq_true', decide_eq_false_iff_not, if_true, if_false, ite_true, ite_false, eq_self, hM.1, hM0.1, hM0.g24, hM0.t24, hM0.n24, bm_in, Int.toNat_natCast, g18, k0, k1, r0, Int.reduceEq, true_or]
  refine ⟨by omega, by omega, by omega, by omega, ?_⟩
  refine hF d _ _ _ _ ch _ hd (hf.tr Q0.1) q_gi_eq (fun v hv w2 hQ2 h52 => ?_) (fun hv w2 hQ2 h52 => ?_)
  · exact hS v hv w2 (Q0.tr hQ2) h52
  · exact hN hv w2 (Q0.tr hQ2) h52
