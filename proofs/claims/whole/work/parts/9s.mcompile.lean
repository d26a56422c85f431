/-! ===== the model: compile ===== -/
theorem f_its_end {K : Nat → Int} {N : Nat} (h0 : K N = 0) (hN : N ≤ 1500) : ∀ (n p e : Nat), p ≤ N → f_its K n (false, p) = (false, e) → K e = 0 ∧ p ≤ e ∧ e ≤ N
  | 0, p, e, hp, h => by cases h
  | n + 1, p, e, hp, h => by
    cases hc : f_itm K (false, p) with
    | mk b q =>
      cases b with
      | true => rw [f_its_x hc] at h; cases h
      | false =>
        have far := f_far_itm (K := K) (N := N) h0 (false, p) hp
        rw [hc] at far
        have qN : q ≤ N := far.2.1
        have pq : p ≤ q := far.1
        by_cases c0 : K q = 0
        · rw [f_its_f hc c0 (by omega)] at h
          have := congrArg Prod.snd h
          simp only at this
          subst this
          exact ⟨c0, pq, qN⟩
        · rw [f_its_t hc c0] at h
          have := f_its_end h0 hN n q e qN h
          exact ⟨this.1, by omega, this.2.2⟩
/-- the answer of a compile, in the model -/
def ans_m (m : Nat) (B : Int → Int) (N : Nat) (r : (Int × Nat) ⊕ y_pr) (x : Int) (w' : bm_W) : Prop := match r with
  | .inl e => x = e.1 ∧ e.1 ≠ 0 ∧ bm_gi w' m 3 = t_P B e.2 ∧ bm_gi w' m 18 = 0 ∧ bm_gi w' m 28 = 0 ∧ bm_gi w' m 27 = 0
  | .inr pr => x = 0 ∧ bm_gi w' m 3 = -1 ∧ mfs m B pr.1 w' ∧ mts m B pr w' ∧ bm_gi w' m 27 = (y_I (t_K B) N : Int) ∧ y_fks pr ∧ y_I (t_K B) N ≤ 9 * pr.1.length
section MN
variable {d m N : Nat} {B : Int → Int} {w w0 w' : bm_W} {Φ : bm_Rt → bm_W → Prop} {pr : y_pr}
theorem mp_forget (h : bm_kt w m = 12) : bm_Call bm_pg (d + 1) y_X12_forget [bm_r (some m)] w Φ ↔ Φ (.inl none) (bm_si (bm_si (bm_si (bm_si w m 18 0) m 28 0) m 27 0) m 11 0) := by
  refine bm_ans (fun Ψ q => vc_X12_forget ?_)
  simp only [bm_c0_v, bm_c1_v, bm_c2_v, bm_c3_v, bm_c4_v, bm_c5_v, bm_u_some, decide_eq_true_eq, true_and, and_true, and_self, Bool.not_eq_true, Bool.not_eq_true', decide_eq_false_iff_not, if_true, if_false, ite_true, ite_false, eq_self, h]
  exact vb_X12_forget_20 q
theorem mp_compile (h : md_B m B w) (hs : m + 31 < bm_sz w) (hq : ∀ x N w', mG m N w w' → (N : Int) ≤ bm_gi w m 2 → N ≤ 1500 → (∀ j, j < N → t_K B j ≠ 0) → t_K B N = 0 → bm_gi w' m 2 = 0 → bm_gi w' m 0 = 0 → ans_m m B N (y_cmp (t_K B) (t_V B)) x w' → Φ (.inl (some (bm_i x))) w') : bm_Call bm_pg (d + 1269) y_X12_compile [bm_r (some m)] w Φ := by
  have S := h.1
  refine vc_X12_compile ?_
  have S0 : sh_Md m (bm_si w m 0 0) := S
  simp only [bm_c0_v, bm_c1_v, bm_c2_v, bm_c3_v, bm_c4_v, bm_c5_v, bm_u_some, decide_eq_true_eq, true_and, and_true, and_self, Bool.not_eq_true, Bool.not_eq_true', decide_eq_false_iff_not, if_true, if_false, ite_true, ite_false, eq_self, S.1, S0.1, mp_forget (d := d + 1267) S0.1, bm_c0_v]
  have F1 : q_fr (fun a => a = m) w (bm_si (bm_si (bm_si (bm_si (bm_si (bm_si w m 0 0) m 18 0) m 28 0) m 27 0) m 11 0) m 3 (-1)) := (((((q_fr.rf.si rfl).si rfl).si rfl).si rfl).si rfl).si rfl
  have g : ∀ j, bm_gi (bm_si (bm_si (bm_si (bm_si (bm_si (bm_si w m 0 0) m 18 0) m 28 0) m 27 0) m 11 0) m 3 (-1)) m j = if j = 3 then -1 else if j = 11 ∨ j = 27 ∨ j = 28 ∨ j = 18 ∨ j = 0 then 0 else bm_gi w m j := fun j => by
    simp only [bm_si_gi]
    grind
  have gl1 : ∀ j, bm_gl (bm_si (bm_si (bm_si (bm_si (bm_si (bm_si w m 0 0) m 18 0) m 28 0) m 27 0) m 11 0) m 3 (-1)) m j = bm_gl w m j := fun _ => rfl
  have S1 : sh_Md m (bm_si (bm_si (bm_si (bm_si (bm_si w m 0 0) m 18 0) m 28 0) m 27 0) m 11 0) := S
  simp only [S1.1, S.1]
  generalize bm_si (bm_si (bm_si (bm_si (bm_si (bm_si w m 0 0) m 18 0) m 28 0) m 27 0) m 11 0) m 3 (-1) = w1 at F1 g gl1 ⊢
  done
end MN
