/-! ===== all cases of all tables, in the class ===== -/
section SC
variable {d m p : Nat} {w : bm_W} {Φ : bm_Rt → bm_W → Prop}
theorem sc_31 (w0 : bm_W) (hq : ∀ w', q_fr (fun a => m ≤ a ∧ a ≤ m + 3) w0 w' → bm_gi w' m 6 = 1 → (∀ j, j < 54 → bm_gi w' (m + 2) j = 0 ∧ bm_gi w' (m + 3) j = 0) → Φ (.inl none) w') : ∀ (rem j : Nat) (w : bm_W), j + rem = 54 → sh_Mc m p w → q_fr (fun a => m ≤ a ∧ a ≤ m + 3) w0 w → bm_gi w m 6 = 1 → (∀ i, i < 54 → bm_gi w (m + 2) i = 0) → (∀ i, i < j → bm_gi w (m + 3) i = 0) → bk_X2_startCounting_31 d Φ m (j : Int) w
  | 0, j, w, hj, h, hf, h6, h2, h3 => by
    refine vb_X2_startCounting_31 ?_
    simp only [bm_c0_v, bm_c1_v, bm_c2_v, bm_c3_v, bm_c4_v, bm_c5_v, bm_u_some, decide_eq_true_eq, true_and, and_true, and_self, Bool.not_eq_true, Bool.not_eq_true', decide_eq_false_iff_not, if_true, if_false, ite_true, ite_false, eq_self, h.1, h.2.1, h.2.2.1, h.2.2.2.1, h.2.2.2.2.1, h.2.2.2.2.2.1, h.2.2.2.2.2.2.1, h.2.2.2.2.2.2.2.1, h.2.2.2.2.2.2.2.2.1, h.2.2.2.2.2.2.2.2.2.1, h.2.2.2.2.2.2.2.2.2.2]
    rw [if_pos (by omega)]
    exact ⟨by decide, hq w hf h6 (fun i hi => ⟨h2 i hi, h3 i (by omega)⟩)⟩
  | rem + 1, j, w, hj, h, hf, h6, h2, h3 => by
    refine vb_X2_startCounting_31 ?_
    simp only [bm_c0_v, bm_c1_v, bm_c2_v, bm_c3_v, bm_c4_v, bm_c5_v, bm_u_some, decide_eq_true_eq, true_and, and_true, and_self, Bool.not_eq_true, Bool.not_eq_true', decide_eq_false_iff_not, if_true, if_false, ite_true, ite_false, eq_self, h.1, h.2.1, h.2.2.1, h.2.2.2.1, h.2.2.2.2.1, h.2.2.2.2.2.1, h.2.2.2.2.2.2.1, h.2.2.2.2.2.2.2.1, h.2.2.2.2.2.2.2.2.1, h.2.2.2.2.2.2.2.2.2.1, h.2.2.2.2.2.2.2.2.2.2, bm_in, Int.toNat_natCast, bm_w1 (show j < 2147483647 by omega)]
    rw [if_neg (by omega)]
    refine ⟨by decide, by omega, sc_31 w0 hq rem (j + 1) _ (by omega) h (hf.si (by omega)) ((q_gi_ne (by omega)).trans h6) (fun i hi => (q_gi_ne (by omega)).trans (h2 i hi)) (fun i hi => ?_)⟩
    by_cases z : i = j
    · rw [z, q_gi_eq]
    · rw [q_gi_nk z]; exact h3 i (by omega)
theorem sc_7 (w0 : bm_W) (hq : ∀ w', q_fr (fun a => m ≤ a ∧ a ≤ m + 3) w0 w' → bm_gi w' m 6 = 1 → (∀ j, j < 54 → bm_gi w' (m + 2) j = 0 ∧ bm_gi w' (m + 3) j = 0) → Φ (.inl none) w') : ∀ (rem j : Nat) (w : bm_W), j + rem = 54 → sh_Mc m p w → q_fr (fun a => m ≤ a ∧ a ≤ m + 3) w0 w → bm_gi w m 6 = 1 → (∀ i, i < j → bm_gi w (m + 2) i = 0) → bk_X2_startCounting_7 d Φ m (j : Int) w
  | 0, j, w, hj, h, hf, h6, h2 => by
    refine vb_X2_startCounting_7 ?_
    simp only [bm_c0_v, bm_c1_v, bm_c2_v, bm_c3_v, bm_c4_v, bm_c5_v, bm_u_some, decide_eq_true_eq, true_and, and_true, and_self, Bool.not_eq_true, Bool.not_eq_true', decide_eq_false_iff_not, if_true, if_false, ite_true, ite_false, eq_self, h.1, h.2.1, h.2.2.1, h.2.2.2.1, h.2.2.2.2.1, h.2.2.2.2.2.1, h.2.2.2.2.2.2.1, h.2.2.2.2.2.2.2.1, h.2.2.2.2.2.2.2.2.1, h.2.2.2.2.2.2.2.2.2.1, h.2.2.2.2.2.2.2.2.2.2]
    rw [if_pos (by omega)]
    exact ⟨by decide, sc_31 w0 hq 54 0 w (by omega) h hf h6 (fun i hi => h2 i (by omega)) (fun i hi => by omega)⟩
  | rem + 1, j, w, hj, h, hf, h6, h2 => by
    refine vb_X2_startCounting_7 ?_
    simp only [bm_c0_v, bm_c1_v, bm_c2_v, bm_c3_v, bm_c4_v, bm_c5_v, bm_u_some, decide_eq_true_eq, true_and, and_true, and_self, Bool.not_eq_true, Bool.not_eq_true', decide_eq_false_iff_not, if_true, if_false, ite_true, ite_false, eq_self, h.1, h.2.1, h.2.2.1, h.2.2.2.1, h.2.2.2.2.1, h.2.2.2.2.2.1, h.2.2.2.2.2.2.1, h.2.2.2.2.2.2.2.1, h.2.2.2.2.2.2.2.2.1, h.2.2.2.2.2.2.2.2.2.1, h.2.2.2.2.2.2.2.2.2.2, bm_in, Int.toNat_natCast, bm_w1 (show j < 2147483647 by omega)]
    rw [if_neg (by omega)]
    refine ⟨by decide, by omega, sc_7 w0 hq rem (j + 1) _ (by omega) h (hf.si (by omega)) ((q_gi_ne (by omega)).trans h6) (fun i hi => ?_)⟩
    by_cases z : i = j
    · rw [z, q_gi_eq]
    · rw [q_gi_nk z]; exact h2 i (by omega)
theorem sp_startCounting (h : sh_Mc m p w) (hq : ∀ w', q_fr (fun a => m ≤ a ∧ a ≤ m + 3) w w' → bm_gi w' m 6 = 1 → (∀ j, j < 54 → bm_gi w' (m + 2) j = 0 ∧ bm_gi w' (m + 3) j = 0) → Φ (.inl none) w') : bm_Call bm_pg (d + 1) y_X2_startCounting [bm_r (some m)] w Φ := by
  refine vc_X2_startCounting ⟨⟨h.1, Or.inr rfl⟩, ?_⟩
  exact sc_7 w hq 54 0 _ (by omega) h (q_fr.rf.si (by omega)) q_gi_eq (fun i hi => by omega)
end SC
/-- branches of the first tables' cases -/
def y_tF (pr : y_pr) (k : Nat) : y_fn := pr.1.getD (pr.2.getD k y_t0).2.1 y_f0
def s_trs (pr : y_pr) : Nat → List (Int × Bool)
  | 0 => []
  | k + 1 => s_trs pr k ++ s_tr (y_tF pr k).2.2.2.2 (pr.2.getD k y_t0).2.2 (y_ct (pr.2.getD k y_t0).2.2).toNat
/-- all tables that the class keeps -/
def zA (t : Nat) (B : Int → Int) (pr : y_pr) (w : bm_W) : Prop := sh_Ru t w ∧ bm_gi w (t + 4) 5 = (pr.2.length : Int) ∧ pr.2.length ≤ 6 ∧ ∀ k : Nat, k < pr.2.length → zC t (pg_tb (t + 4) (k : Int)) (pr.2.getD k y_t0).2.1 (y_tF pr k).2.1.length B (y_tF pr k) (pr.2.getD k y_t0).2.2 w
/-- what refreshing may change -/
def zX (t a : Nat) : Prop := (t + 113 ≤ a ∧ a ≤ t + 116) ∨ ∃ k : Nat, k < 6 ∧ a = pg_tb (t + 4) (k : Int) + 6
/-- what is noted of the cases of the first tables -/
def zN (t : Nat) (pr : y_pr) (m : Nat) (w : bm_W) : Prop := (∀ k : Nat, k < m → ∀ j : Nat, (j : Int) < y_ct (pr.2.getD k y_t0).2.2 → bm_gi w (pg_tb (t + 4) (k : Int) + 6) j = s_hold (y_tF pr k).2.2.2.2 (pr.2.getD k y_t0).2.2 (j : Int) (-1)) ∧ ∀ j, j < 54 → bm_gi w (t + 115) j = q_bump 1 true (s_trs pr m) (fun _ => 0) j ∧ bm_gi w (t + 116) j = q_bump 1 false (s_trs pr m) (fun _ => 0) j
theorem q_bump_ext (on : Int) (b : Bool) : ∀ (tr : List (Int × Bool)) (g g' : Nat → Int) (j : Nat), g j = g' j → q_bump on b tr g j = q_bump on b tr g' j
  | [], g, g', j, h => h
  | (i, b') :: r, g, g', j, h => by
    unfold q_bump
    refine q_bump_ext on b r _ _ j ?_
    split
    · simp only
      split
      · rw [h]
      · exact h
    · exact h
section RF
variable {d t : Nat} {B : Int → Int} {pr : y_pr} {w : bm_W} {Φ : bm_Rt → bm_W → Prop}
/-- tables stay where no other is changed but in its notes, the machine in its stack and counters -/
theorem zA.fr {A : Nat → Prop} {w' : bm_W} (h : zA t B pr w) (hf : q_fr A w w') (hA : ∀ a, A a → zX t a ∨ a = t + 117) : zA t B pr w' := by
  obtain ⟨h1, h2, h3, h4⟩ := h
  have nA : ∀ a, ¬ (t + 113 ≤ a ∧ a ≤ t + 117) → (∀ k : Nat, k < 6 → a ≠ pg_tb (t + 4) (k : Int) + 6) → ¬ A a := fun a x y z => by
    rcases hA a z with (c | ⟨k, c1, c2⟩) | c
    · omega
    · exact y k c1 c2
    · omega
  have tb : ∀ k : Nat, k < 6 → pg_tb (t + 4) (k : Int) = t + 70 + 7 * k := fun k hk => by have := pg_tb_in (t + 4) k hk; omega
  refine ⟨h1.fr hf, ?_, h3, fun k hk => ?_⟩
  · rw [hf.gi (nA _ (by omega) (fun k hk => by have := tb k hk; omega))]; exact h2
  · obtain ⟨z1, z2, z3, z4, ⟨b1, b2, b3, b4, b5⟩, z6, z7, z8⟩ := h4 k hk
    have tk := tb k (by omega)
    have e : ∀ a j, ¬ (t + 113 ≤ a ∧ a ≤ t + 117) → (∀ k : Nat, k < 6 → a ≠ t + 70 + 7 * k + 6) → bm_gi w' a j = bm_gi w a j ∧ bm_gl w' a j = bm_gl w a j := fun a j x y => by
      have n := nA a x (fun k hk => by have := tb k hk; have := y k hk; omega)
      exact ⟨hf.gi n, hf.gl n⟩
    refine ⟨z1.fr hf, z2.fr hf, (e _ _ (by omega) (fun k hk => by omega)).1.trans z3, z4.bk (fun x _ a u v j => ?_), ⟨(e _ _ (by omega) (fun k hk => by omega)).1.trans b1, b2, (e _ _ (by omega) (fun k hk => by omega)).1.trans b3, b4, fun i hi => ?_⟩, fun i r hi hr => z6 i r hi (by rw [← hf.gr]; exact hr), z7, z8⟩
    · have := pg_fn_off t (x : Int)
      exact e _ _ (by omega) (fun k hk => by omega)
    · obtain ⟨r, r1, r2, r3⟩ := b5 i hi
      have := z6 i r (by omega) r1
      exact ⟨r, by rw [hf.gr]; exact r1, r2.bk (fun a u v j => e _ _ (by omega) (fun k hk => by omega)), r3⟩
end RF
