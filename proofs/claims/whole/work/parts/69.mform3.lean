/-! ===== the form of expressions, in the model: factors; all of it ===== -/
section FM
variable {m N L fst : Nat} {B : Int → Int} {w0 : bm_W}
theorem fm_112 {n : Nat} (h : fz m N L fst B w0) (hE : fcE m N L fst B w0 n) (hF : fcF m N L fst B w0 n) {d depth p : Nat} {v : Int} {Φ : bm_Rt → bm_W → Prop} (hN : p ≤ N) (hL : p ≤ L) (hf : fst ≤ p) (hd : depth ≤ 8) (hn : 8 * (L + 1 - p) + 1 ≤ n + 1) (hdd : 3 * n + 20 ≤ d) (hv : (v = 0 ∧ t_K B p = 16) ∨ (v = 1 ∧ (t_K B p = 29 ∨ t_K B p = 11))) (hq : ∀ x, fo (t_K B) L (f_ex (t_K B) L (n + 1) 5 depth (false, p)) x → Φ (.inl (some (bm_i x))) (fW w0 m (f_ex (t_K B) L (n + 1) 5 depth (false, p)).2)) : bk_X12_factorForm_112 d Φ m (depth : Int) v (fW w0 m p) := by
  obtain ⟨d, rfl⟩ : ∃ d', d = d' + 20 := ⟨d - 20, by omega⟩
  have hz := h.z p
  have n2 : ¬ f_see (t_K B) L (false, p) 2 2 := fun z => by have := z.2.2; simp only at this; omega
  have n3 : ¬ f_see (t_K B) L (false, p) 3 3 := fun z => by have := z.2.2; simp only at this; omega
  refine vb_X12_factorForm_112 ?_
  simp only [bm_c0_v, bm_c1_v, bm_c2_v, bm_c3_v, bm_c4_v, bm_c5_v, bm_u_some, decide_eq_true_eq, true_and, and_true, and_self, Bool.not_eq_true, Bool.not_eq_true', decide_eq_false_iff_not, if_true, if_false, ite_true, ite_false, eq_self, true_or, or_true, hz.1.1.1]
  by_cases c8 : depth = 8
  · rw [if_pos (by omega)]
    have e1 : f_ex (t_K B) L (n + 1) 5 depth (false, p) = (true, p) := by rw [f_ex_5, if_neg n2, if_neg n3, if_pos (by omega)]
    rw [e1] at hq
    exact hq 0 fo.no
  · rw [if_neg (by omega)]
    refine fm_goes h hN hf (fun pL => ?_) (fun pL => ?_)
    · rw [bm_c1_v, if_neg (by decide)]
      have e1 : f_ex (t_K B) L (n + 1) 5 depth (false, p) = (true, p) := by rw [pL]; exact f_ex_lim _ _ _ (by decide)
      rw [e1] at hq
      exact hq 0 fo.no
    · have hz1 := h.z (p + 1)
      have hN1 := h.lt hN (by omega)
      rw [bm_c1_v, if_pos (by decide), q_dp hd]
      have c8' : ¬ 8 ≤ depth := by omega
      have pl : p < L := by omega
      rcases hv with ⟨v0, kp⟩ | ⟨v1, kp⟩
      · rw [if_pos v0]
        have e1 : f_ex (t_K B) L (n + 1) 5 depth (false, p) = f_exp (t_K B) L 17 (f_ex (t_K B) L n 6 (depth + 1) (false, p + 1)) := by rw [f_ex_5, if_neg n2, if_neg n3, if_neg c8', if_pos ⟨rfl, pl, by simp only; omega, by simp only; omega⟩]
        rw [e1] at hq
        refine ⟨hz1.1.1.1, ?_⟩
        have r1 := h.rng n 6 (depth + 1) (s := (false, p + 1)) (by decide) hN1 pl
        simp only at r1
        refine hE _ (depth + 1) (p + 1) _ hN1 pl (by omega) (by omega) (by simp; omega) (by omega) (fun x2 hx2 => ?_)
        generalize f_ex (t_K B) L n 6 (depth + 1) (false, p + 1) = s at hq r1 hx2 ⊢
        have hz2 := h.z s.2
        rw [bm_c1_v]
        by_cases x20 : x2 = 0
        · rw [x20] at hx2 ⊢
          rw [if_pos rfl]
          rw [hx2.exp0] at hq
          exact hq 0 fo.no
        · obtain ⟨-, sx⟩ := hx2.ok x20
          rw [if_neg x20]
          refine ⟨hz2.1.1.1, ?_⟩
          have kc4 : t_kc 4 = 17 := rfl
          refine fm_goes_ h r1.2.1 (by omega) r1.2.2.1 (by decide) (by decide) (fun y => ?_) (fun y => ?_)
          · rw [bm_c1_v, if_pos rfl]
            rw [kc4] at y
            rw [sx, f_exp_no y] at hq
            exact hq 0 fo.no
          · rw [bm_c1_v, if_neg (by decide)]
            rw [kc4] at y
            rw [sx, f_exp_yes y] at hq
            exact hq 1 fo.yes
      · rw [if_neg (by omega)]
        have e1 : f_ex (t_K B) L (n + 1) 5 depth (false, p) = f_ex (t_K B) L n 5 (depth + 1) (false, p + 1) := by
          rw [f_ex_5, if_neg n2, if_neg n3, if_neg c8', if_neg (fun z => by have := z.2.2; simp only at this; omega), if_pos ?_]
          rcases kp with kp | kp
          · exact Or.inl ⟨rfl, pl, by simp only; omega, by simp only; omega⟩
          · exact Or.inr ⟨rfl, pl, by simp only; omega, by simp only; omega⟩
        rw [e1] at hq
        refine ⟨hz1.1.1.1, ?_⟩
        refine hF _ (depth + 1) (p + 1) _ hN1 pl (by omega) (by omega) (by simp; omega) (by omega) (fun x2 hx2 => ?_)
        rw [bm_c1_v]
        exact ⟨hx2.bit, hq x2 hx2⟩
theorem t_mk_2 (x : Int) (h : 0 ≤ x) : t_mk x = 2 ↔ x = 2 := by unfold t_mk; grind
theorem fm_factor {n : Nat} (h : fz m N L fst B w0) (hE : fcE m N L fst B w0 n) (hF : fcF m N L fst B w0 n) (hA : fcA m N L fst B w0 n) : fcF m N L fst B w0 (n + 1) := by
  intro d depth p Φ hN hL hf hd hn hdd hq
  obtain ⟨d, rfl⟩ : ∃ d', d = d' + 22 := ⟨d - 22, by omega⟩
  have hz := h.z p
  have hn' : 8 * (L + 1 - p) + 1 ≤ n + 1 := by simpa using hn
  have tb := hz.2.1 p (by omega)
  have hN5 := hz.2.2.1
  have kr := t_k_rng B (t_P B p)
  have mk := t_mk_2 (t_K B p) kr.1
  have kc1 : t_kc 1 = 29 := rfl
  have kc3 : t_kc 3 = 16 := rfl
  have kc20 : t_kc 20 = 11 := rfl
  refine vc_X12_factorForm ?_
  simp only [bm_c0_v, bm_c1_v, bm_c2_v, bm_c3_v, bm_c4_v, bm_c5_v, bm_u_some, decide_eq_true_eq, true_and, and_true, and_self, Bool.not_eq_true, Bool.not_eq_true', decide_eq_false_iff_not, if_true, if_false, ite_true, ite_false, eq_self, true_or, or_true, hz.1.1.1, hz.1.1.g4, hz.1.1.t4, hz.1.1.n4, bm_in, fW_9, Int.toNat_natCast, tb.1]
  refine ⟨by omega, ?_⟩
  have lim : p = L → f_ex (t_K B) L (n + 1) 5 depth (false, p) = (true, p) := fun e => by rw [e]; exact f_ex_lim _ _ _ (by decide)
  by_cases c2 : t_K B p = 2
  · rw [if_neg (fun z => z (mk.mpr c2))]
    refine fm_goes h hN hf (fun pL => ?_) (fun pL => ?_)
    · rw [bm_c1_v]
      rw [lim pL] at hq
      exact ⟨Or.inl rfl, hq 0 fo.no⟩
    · rw [bm_c1_v]
      have e1 : f_ex (t_K B) L (n + 1) 5 depth (false, p) = (false, p + 1) := by rw [f_ex_5, if_pos ⟨rfl, by simp only; omega, by simp only; omega, by simp only; omega⟩]
      rw [e1] at hq
      exact ⟨Or.inr rfl, hq 1 fo.yes⟩
  · have n2 : ¬ f_see (t_K B) L (false, p) 2 2 := fun z => c2 (by have := z.2.2; simp only at this; omega)
    rw [if_pos (fun z => c2 (mk.mp z))]
    rw [mp_isName hz hN, bm_c1_v]
    by_cases c3 : t_K B p = 3
    · rw [if_pos c3, if_neg (by decide)]
      refine ⟨hz.1.1.1, fm_goes h hN hf (fun pL => ?_) (fun pL => ?_)⟩
      · rw [bm_c1_v, if_pos rfl]
        rw [lim pL] at hq
        exact hq 0 fo.no
      · have hz1 := h.z (p + 1)
        have hN1 := h.lt hN (by omega)
        have s3 : f_see (t_K B) L (false, p) 3 3 := ⟨rfl, by simp only; omega, by simp only; omega, by simp only; omega⟩
        rw [bm_c1_v, if_neg (by decide)]
        refine ⟨hz1.1.1.1, ?_⟩
        rw [fm_sees h hN1 (by decide) (by decide), bm_c1_v, kc3]
        by_cases c16 : t_K B (p + 1) = 16
        · rw [if_pos c16, if_neg (by decide)]
          by_cases c8 : 8 ≤ depth
          · rw [if_pos (by omega)]
            by_cases p1L : p + 1 = L
            · have e1 : f_ex (t_K B) L (n + 1) 5 depth (false, p) = (false, p + 1) := by rw [f_ex_5, if_neg n2, if_pos s3, if_neg (fun z => by have := z.2.1; simp only at this; omega)]
              rw [e1] at hq
              exact hq 0 (Or.inr ⟨rfl, Or.inr ⟨p1L, Or.inr (Or.inr (Or.inl (by rw [← p1L]; exact c16)))⟩⟩)
            · have e1 : f_ex (t_K B) L (n + 1) 5 depth (false, p) = (true, p + 1) := by rw [f_ex_5, if_neg n2, if_pos s3, if_pos ⟨rfl, by simp only; omega, by simp only; omega, by simp only; omega⟩, if_pos c8]
              rw [e1] at hq
              exact hq 0 fo.no
          · rw [if_neg (by omega)]
            refine ⟨hz1.1.1.1, fm_goes h hN1 (by omega) (fun p1L => ?_) (fun p1L => ?_)⟩
            · rw [bm_c1_v, if_pos rfl]
              have e1 : f_ex (t_K B) L (n + 1) 5 depth (false, p) = (false, p + 1) := by rw [f_ex_5, if_neg n2, if_pos s3, if_neg (fun z => by have := z.2.1; simp only at this; omega)]
              rw [e1] at hq
              exact hq 0 (Or.inr ⟨rfl, Or.inr ⟨p1L, Or.inr (Or.inr (Or.inl (by rw [← p1L]; exact c16)))⟩⟩)
            · have hz2 := h.z (p + 1 + 1)
              have hN2 := h.lt hN1 (by omega)
              rw [bm_c1_v, if_neg (by decide), q_dp hd]
              have e1 : f_ex (t_K B) L (n + 1) 5 depth (false, p) = f_ex (t_K B) L n 12 (depth + 1) (f_ex (t_K B) L n 6 (depth + 1) (false, p + 2)) := by rw [f_ex_5, if_neg n2, if_pos s3, if_pos ⟨rfl, by simp only; omega, by simp only; omega, by simp only; omega⟩, if_neg c8]
              rw [e1] at hq
              refine ⟨hz2.1.1.1, ve_X12_argumentsForm (hA (d + 20) (depth + 1) (p + 2) _ hN2 (by omega) (by omega) (by omega) (by omega) (by omega) (fun x hx => ?_))⟩
              rw [bm_c1_v]
              have := hq x hx
              by_cases x0 : x = 0
              · rw [if_pos x0]
                rw [x0] at this
                exact this
              · rw [if_neg x0]
                rw [(hx.ok x0).1] at this
                exact this
        · rw [if_neg c16, if_pos rfl]
          have e1 : f_ex (t_K B) L (n + 1) 5 depth (false, p) = (false, p + 1) := by rw [f_ex_5, if_neg n2, if_pos s3, if_neg (fun z => c16 (by have := z.2.2; simp only at this; omega))]
          rw [e1] at hq
          exact hq 1 fo.yes
    · have n3 : ¬ f_see (t_K B) L (false, p) 3 3 := fun z => c3 (by have := z.2.2; simp only at this; omega)
      rw [if_neg c3, if_pos rfl]
      simp only [fm_sees h hN (show 1 ≤ 1 by decide) (show 1 < 31 by decide), fm_sees h hN (show 1 ≤ 3 by decide) (show 3 < 31 by decide), fm_sees h hN (show 1 ≤ 20 by decide) (show 20 < 31 by decide), bm_c1_v, kc1, kc3, kc20, hz.1.1.1, true_and]
      have key := fun v hv => fm_112 (v := v) (Φ := Φ) h hE hF hN hL hf hd hn' (show 3 * n + 20 ≤ d + 21 by omega) hv hq
      by_cases c29 : t_K B p = 29
      · simp only [if_pos c29, Int.reduceEq, not_false_eq_true, if_true]
        exact key 1 (Or.inr ⟨rfl, Or.inl c29⟩)
      · by_cases c11 : t_K B p = 11
        · simp only [if_neg c29, if_pos c11, Int.reduceEq, not_false_eq_true, not_true_eq_false, if_true, if_false]
          exact key 1 (Or.inr ⟨rfl, Or.inr c11⟩)
        · by_cases c16 : t_K B p = 16
          · simp only [if_neg c29, if_neg c11, if_pos c16, Int.reduceEq, not_false_eq_true, not_true_eq_false, if_true, if_false]
            exact key 0 (Or.inl ⟨rfl, c16⟩)
          · simp only [if_neg c29, if_neg c11, if_neg c16, Int.reduceEq, not_false_eq_true, not_true_eq_false, if_true, if_false]
            have e1 : f_ex (t_K B) L (n + 1) 5 depth (false, p) = (true, p) := by
              rw [f_ex_5, if_neg n2, if_neg n3]
              split
              · rfl
              · rw [if_neg (fun z => c16 (by have := z.2.2; simp only at this; omega)), if_neg (fun z => z.elim (fun y => c29 (by have := y.2.2; simp only at this; omega)) (fun y => c11 (by have := y.2.2; simp only at this; omega)))]
            rw [e1] at hq
            exact hq 0 fo.no
/-- all of the model's form of expressions -/
def fmA (m N L fst : Nat) (B : Int → Int) (w0 : bm_W) (n : Nat) : Prop := fcE m N L fst B w0 n ∧ (∀ u, u ≤ 5 → fcL m N L fst B w0 u n) ∧ (∀ u, u < 5 → fcP m N L fst B w0 u n) ∧ fcF m N L fst B w0 n ∧ fcA m N L fst B w0 n
theorem fc_0 {u n : Nat} {X : Nat → (bm_Rt → bm_W → Prop) → Nat → bm_W → Prop} (hn : n < 8) : fc m N L fst B w0 u n X := fun d depth p Φ _ hL _ _ h => by omega
theorem fm_all (h : fz m N L fst B w0) : ∀ n, fmA m N L fst B w0 n ∧ fmA m N L fst B w0 (n + 1)
  | 0 => ⟨⟨fc_0 (by decide), fun _ _ => fc_0 (by decide), fun _ _ => fc_0 (by decide), fc_0 (by decide), fun d depth p Φ _ hL _ _ h => by omega⟩, ⟨fc_0 (by decide), fun _ _ => fc_0 (by decide), fun _ _ => fc_0 (by decide), fc_0 (by decide), fun d depth p Φ _ hL _ _ h => by omega⟩⟩
  | n + 1 => by
    obtain ⟨⟨a1, a2, a3, a4, a5⟩, b⟩ := fm_all h n
    have b' := b
    obtain ⟨b1, b2, b3, b4, b5⟩ := b'
    have F := fm_factor h b1 b4 b5
    have E := fm_expr h b1 (b2 0 (by decide))
    refine ⟨b, E, fun u hu => ?_, fun u hu => fm_lp hu h (b2 (u + 1) (by omega)) (b3 u hu), F, fm_args h E b5⟩
    rcases (show u = 0 ∨ u = 1 ∨ u = 2 ∨ u = 3 ∨ u = 4 ∨ u = 5 by omega) with rfl | rfl | rfl | rfl | rfl | rfl
    · exact fm_lv_0 h (b2 1 (by decide)) (b3 0 (by decide))
    · exact fm_lv_1 h (b2 2 (by decide)) (b3 1 (by decide))
    · exact fm_lv_2 h (b2 3 (by decide)) (b3 2 (by decide))
    · exact fm_lv_3 h (b2 4 (by decide)) (b3 3 (by decide))
    · exact fm_lv_4 h (b2 5 (by decide)) (b3 4 (by decide))
    · exact fm_lv_5 h F
theorem fm_expression (h : fz m N L fst B w0) (n : Nat) : fcE m N L fst B w0 n := (fm_all h n).1.1
end FM
