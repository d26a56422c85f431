/-! ===== what nodes of the model come to: signs ===== -/
section ND
variable {m i : Nat} {w0 : bm_W}
theorem nd_un {e : Int} {D : q_D} {dp : Nat} (h : sh_Md m w0) (hi : i < 1500) (hk : bm_gi w0 (m + 7) i = 3 ∨ bm_gi w0 (m + 7) i = 4) (he : bm_gi w0 (m + 8) i = e) (hD : q_node m w0 e D dp) : q_node m w0 (i : Int) (d_un (if bm_gi w0 (m + 7) i = 3 then 36 else 11) D) (dp + 2) := by
  intro d Φ a b c ch w hd hf h36 hS hN
  obtain ⟨d, rfl⟩ : ∃ d', d = d' + 2 := ⟨d - 2, by omega⟩
  have hM : sh_Md m w := h.fr hf
  have g7 : bm_gi w (m + 7) i = bm_gi w0 (m + 7) i := hf.gi (by omega)
  have g8 : bm_gi w (m + 8) i = bm_gi w0 (m + 8) i := hf.gi (by omega)
  refine nd_step (d := d + 1) hM hi (vb_X12_worth_30 ?_)
  generalize (if ¬ ch = -1 ∧ bm_gi w (m + 12) i = ch then (1 : Int) else 0) = s0
  rw [g7]
  have n0 : ¬ bm_gi w0 (m + 7) i = 0 := by omega
  have n1 : ¬ bm_gi w0 (m + 7) i = 1 := by omega
  have n2 : ¬ bm_gi w0 (m + 7) i = 2 := by omega
  simp only [bm_c0_v, bm_c1_v, bm_c2_v, bm_c3_v, bm_c4_v, bm_c5_v, bm_u_some, decide_eq_true_eq, true_and, and_true, and_self, Bool.not_eq_true, Bool.not_eq_true', decide_eq_false_iff_not, if_true, if_false, ite_true, ite_false, eq_self, hM.1, hM.g13, hM.t13, hM.n13, bm_in, Int.toNat_natCast, g8, he, n0, n1, n2, not_false_eq_true]
  refine ⟨by omega, ?_⟩
  refine hD (d + 1) _ a b c ch w (by omega) hf h36 (fun v hv w' hQ h5 => ?_) (fun hv w' hQ h5 => ?_)
  · have hM' : sh_Md m w' := hM.fr hQ.1
    simp only [bm_c0_v, bm_c1_v, bm_c2_v, bm_c3_v, bm_c4_v, bm_c5_v, bm_u_some, decide_eq_true_eq, true_and, and_true, and_self, Bool.not_eq_true, Bool.not_eq_true', decide_eq_false_iff_not, if_true, if_false, ite_true, ite_false, eq_self, hM'.1, h5, mp_truth]
    have q := hS (t_un (if bm_gi w0 (m + 7) i = 3 then 36 else 11) v) (by show ((D _ ch).1.map _) = _; rw [hv]; rfl) w' hQ h5
    rcases hk with hk | hk
    · rw [hk] at q ⊢
      simp only [t_un, if_true, reduceIte] at q
      simp only [not_true_eq_false, if_false]
      exact q
    · rw [hk] at q ⊢
      simp [t_un] at q
      simp only [Int.reduceEq, not_false_eq_true, if_true, not_true_eq_false, if_false]
      split
      · rename_i z; rw [if_neg z] at q; exact q
      · rename_i z; rw [if_pos (Decidable.not_not.mp z)] at q; exact q
  · have hM' : sh_Md m w' := hM.fr hQ.1
    simp only [bm_c0_v, bm_c1_v, bm_c2_v, bm_c3_v, bm_c4_v, bm_c5_v, bm_u_some, decide_eq_true_eq, true_and, and_true, and_self, Bool.not_eq_true, Bool.not_eq_true', decide_eq_false_iff_not, if_true, if_false, ite_true, ite_false, eq_self, hM'.1, h5]
    rw [if_neg (by decide)]
    exact hN (by show ((D _ ch).1.map _) = none; rw [hv]; rfl) w' hQ h5
end ND
