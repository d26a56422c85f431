/-! ===== reading in the class: programs ===== -/
theorem f_its_s {K : Nat → Int} {n : Nat} {s : Bool × Nat} : f_its K (n + 1) s = if (f_itm K s).1 = false ∧ ¬ f_see K f_T (f_itm K s) 0 0 then f_its K n (f_itm K s) else f_itm K s := rfl
theorem y_its_s {K V : Nat → Int} {n p : Nat} {pr : y_pr} : y_its K V (n + 1) pr p = y_b (y_itm K V pr p) fun pr' => if (f_itm K (false, p)).1 = false ∧ ¬ f_see K f_T (f_itm K (false, p)) 0 0 then y_its K V n pr' (f_itm K (false, p)).2 else .inr pr' := rfl
/-- what a text comes to: an error and its token, or a program -/
def y_cmp (K V : Nat → Int) : (Int × Nat) ⊕ y_pr := if (f_its K f_T (false, 0)).1 = true then .inl (1, (f_its K f_T (false, 0)).2) else y_its K V f_T ([], []) 0
section TR
variable {d t N : Nat} {B : Int → Int} {s : Bool × Nat} {w : bm_W} {Φ : bm_Rt → bm_W → Prop} {pr : y_pr}
theorem ci.see_k {k : Int} (hc : ci t N B s w) : bm_Call bm_pg (d + 1) y_X9_sees [bm_r (some t), bm_i k] w Φ ↔ Φ (.inl (some (bm_i (if f_see (t_K B) f_T s k k then 1 else 0)))) w := by
  rw [sp_sees hc.1.1.1]
  rw [q_ite (hc.1.see k)]
theorem yl.q {q q' : Nat} (h : yl t B pr q w) (hI : y_I (t_K B) q' = y_I (t_K B) q) : yl t B pr q' w := ⟨h.1, h.2.1, by rw [hI]; exact h.2.2⟩
theorem rd_items : ∀ (n : Nat) (v : Int) (s : Bool × Nat) (w : bm_W) (pr : y_pr), ci t N B s w → s.1 = false → (v = 0 ∨ t_K B s.2 ≠ 0) → 0 ≤ v → v ≤ s.2 → N + 1 ≤ n + s.2 → (bm_gi w (t + 112) 2 = 0 → yl t B pr s.2 w) → (∀ w', ci t N B (f_its (t_K B) n s) w' → kf t w w' → pz t B (f_its (t_K B) n s) (y_its (t_K B) (t_V B) n pr s.2) (fun pr' => yl t B pr' (f_its (t_K B) n s).2 w') w w' → bk_X0_translate_104 (d + 1254) Φ (t + 112) w') → bk_X0_translate_16 (d + 1254) Φ (t + 112) 1 v w := by
  intro n
  induction n with
  | zero =>
    intro v s w pr hc s0 hv0 hv hv2 hn hl hq
    have := hc.1.2.2.2.2.1
    omega
  | succ n ih =>
    intro v s w pr hc s0 hv0 hv hv2 hn hl hq
    have hk := hc.2.1
    have h := hc.1
    have N5 := h.1.2.2.1
    have K0 := h.1.2.2.2
    have sN := h.2.2.2.2.1
    have v15 : v < 1500 := by
      rcases hv0 with z | z
      · omega
      · have : s.2 ≠ N := fun y => z (by rw [y]; exact K0)
        omega
    -- behind an item
    have step : ∀ w1, ci t N B (f_itm (t_K B) s) w1 → kf t w w1 → pz t B (f_itm (t_K B) s) (y_itm (t_K B) (t_V B) pr s.2) (fun pr' => yl t B pr' (f_itm (t_K B) s).2 w1) w w1 → ((f_itm (t_K B) s).1 = false → s.2 + 1 ≤ (f_itm (t_K B) s).2) → bk_X0_translate_71 (d + 1254) Φ (t + 112) v w1 := by
      intro w1 c1 k1 p1 far
      have hk1 := c1.2.1
      have h1 := c1.1
      have vw : bm_w (v + 1) = v + 1 := q_wI ⟨by omega, by omega⟩
      refine vb_X0_translate_71 ?_
      simp only [bm_c0_v, bm_c1_v, bm_c2_v, bm_c3_v, bm_c4_v, bm_c5_v, bm_u_some, decide_eq_true_eq, true_and, and_true, and_self, Bool.not_eq_true, Bool.not_eq_true', decide_eq_false_iff_not, if_true, if_false, ite_true, ite_false, eq_self, hk1.1, hk1.2.1, h1.1.1.1, h1.2.2.1, c1.see_k, vw]
      have stop : (f_itm (t_K B) s).1 = true ∨ f_see (t_K B) f_T (f_itm (t_K B) s) 0 0 → bk_X0_translate_16 (d + 1254) Φ (t + 112) 0 (v + 1) w1 := fun hs => by
        have ne : ¬ ((f_itm (t_K B) s).1 = false ∧ ¬ f_see (t_K B) f_T (f_itm (t_K B) s) 0 0) := fun y => by
          rcases hs with z | z
          · rw [y.1] at z; cases z
          · exact y.2 z
        have e1 : f_its (t_K B) (n + 1) s = f_itm (t_K B) s := by rw [f_its_s, if_neg ne]
        rw [e1] at hq
        refine vb_X0_translate_16 ?_
        have fin := hq w1 c1 k1 (p1.cv (fun z c0 => ?_))
        · simp only [bm_c0_v, bm_c1_v, bm_c2_v, bm_c3_v, bm_c4_v, bm_c5_v, bm_u_some, decide_eq_true_eq, true_and, and_true, and_self, Bool.not_eq_true, Bool.not_eq_true', decide_eq_false_iff_not, if_true, if_false, ite_true, ite_false, eq_self]
          split
          · exact fin
          · exact fin
        · rw [y_its_s, ← f_eta s0]
          simp only [if_neg ne]
          cases y_itm (t_K B) (t_V B) pr s.2 with
          | inl e => exact fun y => y
          | inr a => exact fun y => y
      by_cases hbt : (f_itm (t_K B) s).1 = true
      · rw [show bm_bo (f_itm (t_K B) s).1 = 1 by rw [hbt]; rfl, if_pos (by decide)]
        exact stop (Or.inl hbt)
      · have hb : (f_itm (t_K B) s).1 = false := by simpa using hbt
        rw [show bm_bo (f_itm (t_K B) s).1 = 0 by rw [hb]; rfl, if_neg (by decide)]
        by_cases c0 : f_see (t_K B) f_T (f_itm (t_K B) s) 0 0
        · simp only [if_pos c0]
          exact stop (Or.inr c0)
        · simp only [if_neg c0]
          have yes : (f_itm (t_K B) s).1 = false ∧ ¬ f_see (t_K B) f_T (f_itm (t_K B) s) 0 0 := ⟨hb, c0⟩
          have e1 : f_its (t_K B) (n + 1) s = f_its (t_K B) n (f_itm (t_K B) s) := by rw [f_its_s, if_pos yes]
          rw [e1] at hq
          have k0 : t_K B (f_itm (t_K B) s).2 ≠ 0 := fun z => c0 ⟨hb, h1.lt, by omega, by omega⟩
          have fr := far hb
          have e2 : y_its (t_K B) (t_V B) (n + 1) pr s.2 = y_b (y_itm (t_K B) (t_V B) pr s.2) fun pr' => y_its (t_K B) (t_V B) n pr' (f_itm (t_K B) s).2 := by
            rw [y_its_s, ← f_eta s0]
            simp only [if_pos yes]
          rw [e2] at hq
          cases hR : y_itm (t_K B) (t_V B) pr s.2 with
          | inl e =>
            rw [hR] at p1 hq
            refine ih (v + 1) _ w1 ([], []) c1 hb (Or.inr k0) (by omega) (by omega) (by omega) (fun c0 => ?_) (fun w' c' k' p' => hq w' c' (k1.tr k') (p1.stay (fun _ => hb) (fun z => (p' z).1)))
            obtain ⟨-, a, a1, -⟩ := p1.z0 hb c0
            cases a1
          | inr pr' =>
            rw [hR] at p1 hq
            refine ih (v + 1) _ w1 pr' c1 hb (Or.inr k0) (by omega) (by omega) (by omega) (fun c0 => ?_) (fun w' c' k' p' => hq w' c' (k1.tr k') (p1.bind (k := fun pr' => y_its (t_K B) (t_V B) n pr' (f_itm (t_K B) s).2) (fun _ => hb) (fun z => ⟨(p' z).1, fun a ha c0 _ => by
              cases ha
              exact (p' z).2 c0⟩)))
            obtain ⟨cz, a, a1, a2⟩ := p1.z0 hb c0
            cases a1
            exact a2
    refine vb_X0_translate_16 ?_
    simp only [bm_c0_v, bm_c1_v, bm_c2_v, bm_c3_v, bm_c4_v, bm_c5_v, bm_u_some, decide_eq_true_eq, true_and, and_true, and_self, Bool.not_eq_true, Bool.not_eq_true', decide_eq_false_iff_not, if_true, if_false, ite_true, ite_false, eq_self, hk.1, hk.2.1, h.1.1.1, hc.see_k]
    rw [if_neg (by omega), if_neg (by decide)]
    by_cases c4 : f_see (t_K B) f_T s 4 4
    · have e1 : f_itm (t_K B) s = f_fun (t_K B) (false, s.2 + 1) := if_pos c4
      have e2 : y_itm (t_K B) (t_V B) pr s.2 = y_fun (t_K B) (t_V B) pr s.2 := if_pos (by have := c4.2.2; omega)
      rw [e1, e2] at step
      rw [if_pos c4, if_neg (by decide)]
      have lN := f_see_N K0 (by decide) sN c4
      refine rd_fun (d := d + 1) (pr := pr) hc c4 hl (fun w1 c1 k1 p1 => step w1 c1 k1 p1 (fun _ => ?_))
      exact (f_far_fun K0 (false, s.2 + 1) lN).1
    · rw [if_neg c4, if_pos rfl]
      by_cases c12 : f_see (t_K B) f_T s 12 12
      · have e1 : f_itm (t_K B) s = f_tab (t_K B) (false, s.2 + 1) := by unfold f_itm; rw [if_neg c4, if_pos c12]
        have e2 : y_itm (t_K B) (t_V B) pr s.2 = y_tab (t_K B) (t_V B) pr s.2 := if_neg (by have := c12.2.2; omega)
        rw [e1, e2] at step
        rw [if_pos c12, if_neg (by decide)]
        have lN := f_see_N K0 (by decide) sN c12
        refine rd_table (d := d + 1245) (pr := pr) hc c12 hl (fun w1 c1 k1 p1 => step w1 c1 k1 p1 (fun _ => ?_))
        exact (f_far_tab K0 (false, s.2 + 1) lN).1
      · have e1 : f_itm (t_K B) s = (true, s.2) := by unfold f_itm; rw [if_neg c4, if_neg c12]
        rw [e1] at step
        rw [if_neg c12, if_pos rfl]
        simp only [bm_c0_v, bm_c1_v, bm_c2_v, bm_c3_v, bm_c4_v, bm_c5_v, bm_u_some, decide_eq_true_eq, true_and, and_true, and_self, Bool.not_eq_true, Bool.not_eq_true', decide_eq_false_iff_not, if_true, if_false, ite_true, ite_false, eq_self, sp_fail h.1.1]
        refine step _ (hc.tf (tf.rf.si (Or.inr (Or.inr rfl))) h.bad) (kf.tf (tf.rf.si (Or.inr (Or.inr rfl)))) (fun z => by cases z) (fun z => by cases z)
end TR
