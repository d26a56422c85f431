/-! ===== what nodes of the model come to ===== -/
/-- what a reckoning leaves in the model: its frame, the counters -/
def md_Q (m : Nat) (tr : List (Int × Bool)) (w w' : bm_W) : Prop := q_fr (fun a => a = m ∨ a = m + 28 ∨ a = m + 29) w w' ∧ (∀ k, k ≠ 36 → bm_gi w' m k = bm_gi w m k) ∧ (∀ j, bm_gl w' m j = bm_gl w m j) ∧ (∀ j, bm_gi w' (m + 28) j = q_bump (bm_gi w m 37) true tr (bm_gi w (m + 28)) j) ∧ ∀ j, bm_gi w' (m + 29) j = q_bump (bm_gi w m 37) false tr (bm_gi w (m + 29)) j
theorem md_Q.rf {m : Nat} {w : bm_W} : md_Q m [] w w := ⟨q_fr.rf, fun _ _ => rfl, fun _ => rfl, fun _ => rfl, fun _ => rfl⟩
theorem md_Q.tr {m : Nat} {t1 t2 : List (Int × Bool)} {w w' w2 : bm_W} (h : md_Q m t1 w w') (h2 : md_Q m t2 w' w2) : md_Q m (t1 ++ t2) w w2 := by
  refine ⟨h.1.tr h2.1, fun k hk => (h2.2.1 k hk).trans (h.2.1 k hk), fun j => (h2.2.2.1 j).trans (h.2.2.1 j), fun j => ?_, fun j => ?_⟩
  · rw [h2.2.2.2.1, h.2.1 37 (by decide), q_bump_app, show bm_gi w' (m + 28) = q_bump (bm_gi w m 37) true t1 (bm_gi w (m + 28)) from funext h.2.2.2.1]
  · rw [h2.2.2.2.2, h.2.1 37 (by decide), q_bump_app, show bm_gi w' (m + 29) = q_bump (bm_gi w m 37) false t1 (bm_gi w (m + 29)) from funext h.2.2.2.2]
/-- node i of the model means D, at depth dp -/
def q_node (m : Nat) (w0 : bm_W) (i : Int) (D : q_D) (dp : Nat) : Prop :=
  ∀ (d : Nat) (Φ : bm_Rt → bm_W → Prop) (a b c ch : Int) (w : bm_W), dp ≤ d → q_fr (fun a => a = m ∨ a = m + 28 ∨ a = m + 29) w0 w → bm_gi w m 36 = 0 →
    (∀ v, (D (q_abc a b c) ch).1 = some v → ∀ w' : bm_W, md_Q m (D (q_abc a b c) ch).2 w w' → bm_gi w' m 36 = 0 → Φ (.inl (some (bm_l v))) w') →
    ((D (q_abc a b c) ch).1 = none → ∀ w' : bm_W, md_Q m (D (q_abc a b c) ch).2 w w' → bm_gi w' m 36 = 1 → Φ (.inl (some (bm_l 0))) w') → bm_Call bm_pg d y_X12_worth [bm_r (some m), bm_i i, bm_l a, bm_l b, bm_l c, bm_i ch] w Φ
/-- the first row of worth: the node's kind, whether it is the changed one -/
theorem nd_step {d m i : Nat} {a b c ch : Int} {w : bm_W} {Φ : bm_Rt → bm_W → Prop} (h : sh_Md m w) (hi : i < 1500) (q : bk_X12_worth_30 d Φ m (i : Int) a b c ch (bm_gi w (m + 7) i) (if ¬ ch = -1 ∧ bm_gi w (m + 12) i = ch then 1 else 0) w) : bm_Call bm_pg (d + 1) y_X12_worth [bm_r (some m), bm_i (i : Int), bm_l a, bm_l b, bm_l c, bm_i ch] w Φ := by
  refine vc_X12_worth ?_
  simp only [bm_c0_v, bm_c1_v, bm_c2_v, bm_c3_v, bm_c4_v, bm_c5_v, bm_u_some, decide_eq_true_eq, true_and, and_true, and_self, Bool.not_eq_true, Bool.not_eq_true', decide_eq_false_iff_not, if_true, if_false, ite_true, ite_false, eq_self, h.1, h.g12, h.t12, h.n12, h.g17, h.t17, h.n17, bm_in, Int.toNat_natCast]
  refine ⟨by omega, ?_⟩
  by_cases c1 : ch = -1
  · rw [if_pos c1]
    rw [if_neg (fun z => z.1 c1)] at q
    exact q
  · rw [if_neg c1]
    refine ⟨by omega, ?_⟩
    by_cases c2 : bm_gi w (m + 12) i = ch
    · rw [if_neg (fun z => z c2)]
      rw [if_pos ⟨c1, c2⟩] at q
      exact q
    · rw [if_pos c2]
      rw [if_neg (fun z => c2 z.2)] at q
      exact q
theorem nd_num {m i : Nat} {w0 : bm_W} (h : sh_Md m w0) (hi : i < 1500) (hk : bm_gi w0 (m + 7) i = 0) (hv : 0 ≤ bm_gi w0 (m + 11) i ∧ bm_gi w0 (m + 11) i ≤ 9999) : q_node m w0 (i : Int) (d_num (bm_gi w0 (m + 11) i) (bm_gi w0 (m + 12) i)) 1 := by
  intro d Φ a b c ch w hd hf h36 hS hN
  obtain ⟨d, rfl⟩ : ∃ d', d = d' + 1 := ⟨d - 1, by omega⟩
  have hM : sh_Md m w := h.fr hf
  have g7 : bm_gi w (m + 7) i = bm_gi w0 (m + 7) i := hf.gi (by omega)
  have g11 : bm_gi w (m + 11) i = bm_gi w0 (m + 11) i := hf.gi (by omega)
  have g12 : bm_gi w (m + 12) i = bm_gi w0 (m + 12) i := hf.gi (by omega)
  refine nd_step hM hi (vb_X12_worth_30 ?_)
  rw [g7, hk, g12]
  simp only [bm_c0_v, bm_c1_v, bm_c2_v, bm_c3_v, bm_c4_v, bm_c5_v, bm_u_some, decide_eq_true_eq, true_and, and_true, and_self, Bool.not_eq_true, Bool.not_eq_true', decide_eq_false_iff_not, if_true, if_false, ite_true, ite_false, eq_self, hM.1, hM.g16, hM.t16, hM.n16, bm_in, Int.toNat_natCast, not_true_eq_false, if_false, g11, q_wI (x := bm_gi w0 (m + 11) i + 0) ⟨by omega, by omega⟩, q_wI (x := bm_gi w0 (m + 11) i + 1) ⟨by omega, by omega⟩]
  refine ⟨by omega, ?_⟩
  have q := fun v e => hS v e w md_Q.rf h36
  unfold d_num at q
  by_cases z : ¬ ch = -1 ∧ bm_gi w0 (m + 12) i = ch
  · rw [if_pos z] at q
    rw [if_pos z, if_neg (by decide)]
    exact q _ rfl
  · rw [if_neg z] at q
    rw [if_neg z, if_pos rfl]
    exact q _ rfl
