/-! ===== what nodes of the model come to: inputs, signs; its small methods ===== -/
theorem mp_truth {d : Nat} {b : Int} {w : bm_W} {Φ : bm_Rt → bm_W → Prop} : bm_Call bm_pg (d + 1) y_X12_truth [bm_i b] w Φ ↔ Φ (.inl (some (bm_l (if b = 0 then 0 else 1)))) w := by
  refine bm_ans (fun Ψ q => vc_X12_truth ?_)
  grind
theorem mp_fault {d m : Nat} {w : bm_W} {Φ : bm_Rt → bm_W → Prop} (h : sh_Md m w) : bm_Call bm_pg (d + 1) y_X12_fault [bm_r (some m)] w Φ ↔ Φ (.inl (some (bm_l 0))) (bm_si w m 36 1) := by
  refine bm_ans (fun Ψ q => vc_X12_fault ?_)
  simp only [bm_c0_v, bm_c1_v, bm_c2_v, bm_c3_v, bm_c4_v, bm_c5_v, bm_u_some, decide_eq_true_eq, true_and, and_true, and_self, Bool.not_eq_true, Bool.not_eq_true', decide_eq_false_iff_not, if_true, if_false, ite_true, ite_false, eq_self, h.1]
  grind
/-- the class's operator of a model's one -/
def t_op (op : Int) : Int := if op = 0 then 10 else if op = 1 then 9 else op + 20
theorem mp_holds {d : Nat} {op x y : Int} {w : bm_W} {Φ : bm_Rt → bm_W → Prop} : bm_Call bm_pg (d + 1) y_X12_holds [bm_i op, bm_l x, bm_l y] w Φ ↔ Φ (.inl (some (bm_i (if t_rel (op + 20) x y then 1 else 0)))) w := by
  refine bm_ans (fun Ψ q => vc_X12_holds ?_)
  have e2 : op + 20 = 22 ↔ op = 2 := by omega
  have e3 : op + 20 = 23 ↔ op = 3 := by omega
  have e4 : op + 20 = 24 ↔ op = 4 := by omega
  have e5 : op + 20 = 25 ↔ op = 5 := by omega
  have e6 : op + 20 = 26 ↔ op = 6 := by omega
  simp only [t_rel, e2, e3, e4, e5, e6] at q
  simp only [bm_c0_v, bm_c1_v, bm_c2_v, bm_c3_v, bm_c4_v, bm_c5_v, bm_u_some, decide_eq_true_eq, true_and, and_true, and_self, Bool.not_eq_true, Bool.not_eq_true', decide_eq_false_iff_not, if_true, if_false, ite_true, ite_false, eq_self]
  grind (splits := 30)
section ND
variable {m i : Nat} {w0 : bm_W}
theorem nd_in {j : Nat} (h : sh_Md m w0) (hi : i < 1500) (hk : bm_gi w0 (m + 7) i = 1) (hv : bm_gi w0 (m + 11) i = (j : Int)) (hj : j < 3) : q_node m w0 (i : Int) (d_in j) 1 := by
  intro d Φ a b c ch w hd hf h36 hS hN
  obtain ⟨d, rfl⟩ : ∃ d', d = d' + 1 := ⟨d - 1, by omega⟩
  have hM : sh_Md m w := h.fr hf
  have g7 : bm_gi w (m + 7) i = bm_gi w0 (m + 7) i := hf.gi (by omega)
  have g11 : bm_gi w (m + 11) i = bm_gi w0 (m + 11) i := hf.gi (by omega)
  refine nd_step hM hi (vb_X12_worth_30 ?_)
  rw [g7, hk]
  simp only [bm_c0_v, bm_c1_v, bm_c2_v, bm_c3_v, bm_c4_v, bm_c5_v, bm_u_some, decide_eq_true_eq, true_and, and_true, and_self, Bool.not_eq_true, Bool.not_eq_true', decide_eq_false_iff_not, if_true, if_false, ite_true, ite_false, eq_self, hM.1, hM.g16, hM.t16, hM.n16, bm_in, Int.toNat_natCast, g11, hv]
  have q := hS _ rfl w md_Q.rf h36
  unfold q_abc at q
  rcases (show j = 0 ∨ j = 1 ∨ j = 2 by omega) with rfl | rfl | rfl
  · simp at q ⊢
    exact ⟨by omega, q⟩
  · simp at q ⊢
    exact ⟨by omega, q⟩
  · simp at q ⊢
    exact ⟨by omega, q⟩
end ND
