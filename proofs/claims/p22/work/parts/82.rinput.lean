/-! ===== reading in the class: names of items, inputs ===== -/
def pg_ta (w : bm_W) (p : Nat) (v : Int) : Nat → Int → Int
  | 0, _ => -1
  | n + 1, i => if bm_gi w p 5 ≤ i then -1 else if bm_gl w (pg_tb p i) 3 = v then i else pg_ta w p v n (i + 1)
theorem sp_has_loop {d p : Nat} {v : Int} {w : bm_W} {Φ : bm_Rt → bm_W → Prop} (h : sh_Pg p w) (h4 : bm_gi w p 4 ≤ 6) (h5 : bm_gi w p 5 ≤ 6) : ∀ (n : Nat) (i : Int), 0 ≤ i → 7 ≤ i + n → Φ (.inl (some (bm_i (if 0 ≤ pg_ta w p v n i ∨ 0 ≤ pg_nm w p v then 1 else 0)))) w → bk_X3_hasItem_2 (d + 2) Φ p v i w
  | 0, i, h0, hn, q => by
    refine vb_X3_hasItem_2 ?_
    simp only [bm_c0_v, bm_c1_v, bm_c2_v, bm_c3_v, bm_c4_v, bm_c5_v, bm_u_some, decide_eq_true_eq, true_and, and_true, and_self, Bool.not_eq_true, Bool.not_eq_true', decide_eq_false_iff_not, if_true, if_false, ite_true, ite_false, eq_self, h.1, h.2.1, h.2.2.1, h.2.2.2.1, h.2.2.2.2.1, h.2.2.2.2.2.1, h.2.2.2.2.2.2.1, h.2.2.2.2.2.2.2.1, h.2.2.2.2.2.2.2.2.1, h.2.2.2.2.2.2.2.2.2, sp_funNamed h h4, true_or, or_true]
    rw [if_pos (by omega)]
    unfold pg_ta at q
    by_cases c : pg_nm w p v < 0
    · rw [if_pos c]
      rw [if_neg (by omega)] at q
      exact q
    · rw [if_neg c]
      rw [if_pos (by omega)] at q
      exact q
  | n + 1, i, h0, hn, q => by
    refine vb_X3_hasItem_2 ?_
    unfold pg_ta at q
    by_cases c : bm_gi w p 5 ≤ i
    · rw [if_pos c] at q
      simp only [bm_c0_v, bm_c1_v, bm_c2_v, bm_c3_v, bm_c4_v, bm_c5_v, bm_u_some, decide_eq_true_eq, true_and, and_true, and_self, Bool.not_eq_true, Bool.not_eq_true', decide_eq_false_iff_not, if_true, if_false, ite_true, ite_false, eq_self, h.1, h.2.1, h.2.2.1, h.2.2.2.1, h.2.2.2.2.1, h.2.2.2.2.2.1, h.2.2.2.2.2.2.1, h.2.2.2.2.2.2.2.1, h.2.2.2.2.2.2.2.2.1, h.2.2.2.2.2.2.2.2.2, sp_funNamed h h4, true_or, or_true]
      rw [if_pos c]
      by_cases c : pg_nm w p v < 0
      · rw [if_pos c]
        rw [if_neg (by omega)] at q
        exact q
      · rw [if_neg c]
        rw [if_pos (by omega)] at q
        exact q
    · rw [if_neg c] at q
      have ht := h.tb i
      simp only [bm_c0_v, bm_c1_v, bm_c2_v, bm_c3_v, bm_c4_v, bm_c5_v, bm_u_some, decide_eq_true_eq, true_and, and_true, and_self, Bool.not_eq_true, Bool.not_eq_true', decide_eq_false_iff_not, if_true, if_false, ite_true, ite_false, eq_self, h.1, h.2.1, h.2.2.1, h.2.2.2.1, h.2.2.2.2.1, h.2.2.2.2.2.1, h.2.2.2.2.2.2.1, h.2.2.2.2.2.2.2.1, h.2.2.2.2.2.2.2.2.1, h.2.2.2.2.2.2.2.2.2, sp_tableAt h, ht.1, true_or, or_true]
      rw [if_neg c]
      by_cases c2 : bm_gl w (pg_tb p i) 3 = v
      · rw [if_pos c2] at q
        rw [if_neg (fun z => z c2)]
        rw [if_pos (Or.inl h0)] at q
        exact q
      · rw [if_neg c2] at q
        rw [if_pos c2, q_wI (x := i + 1) ⟨by omega, by omega⟩]
        exact sp_has_loop h h4 h5 n (i + 1) (by omega) (by omega) q
theorem sp_hasItem {d p : Nat} {v : Int} {w : bm_W} {Φ : bm_Rt → bm_W → Prop} (h : sh_Pg p w) (h4 : bm_gi w p 4 ≤ 6) (h5 : bm_gi w p 5 ≤ 6) : bm_Call bm_pg (d + 3) y_X3_hasItem [bm_r (some p), bm_l v] w Φ ↔ Φ (.inl (some (bm_i (if 0 ≤ pg_ta w p v 7 0 ∨ 0 ≤ pg_nm w p v then 1 else 0)))) w :=
  bm_ans (fun Ψ q => vc_X3_hasItem (sp_has_loop h h4 h5 7 0 (Int.le_refl _) (by omega) q))
section NM
variable {w : bm_W} {p : Nat} {v : Int} {V : Nat → Int}
theorem pg_nl_ix : ∀ (n i : Nat) (l : List Nat), l.length ≤ n → bm_gi w p 4 = ((i + l.length : Nat) : Int) → (∀ j, j < l.length → bm_gl w (pg_fn p ((i + j : Nat) : Int)) 5 = V (l.getD j 0)) → pg_nl w p v n (i : Int) = y_ix V v l (i : Int)
  | 0, i, [], _, _, _ => rfl
  | 0, i, y :: l, h, _, _ => by simp at h
  | n + 1, i, [], _, h4, _ => by
    unfold pg_nl y_ix
    rw [if_pos (by rw [h4]; simp)]
  | n + 1, i, y :: l, h, h4, hn => by
    rw [List.length_cons] at h h4 hn
    unfold pg_nl y_ix
    have e0 : bm_gl w (pg_fn p (i : Int)) 5 = V y := hn 0 (by omega)
    rw [if_neg (by omega), e0]
    by_cases c : V y = v
    · rw [if_pos c, if_pos c]
    · rw [if_neg c, if_neg c]
      have := pg_nl_ix n (i + 1) l (by omega) (by rw [h4]; omega) (fun j hj => by
        have := hn (j + 1) (by omega)
        rw [show i + 1 + j = i + (j + 1) by omega]
        exact this)
      rw [show ((i : Int) + 1) = ((i + 1 : Nat) : Int) by omega]
      exact this
theorem pg_ta_ix : ∀ (n i : Nat) (l : List Nat), l.length ≤ n → bm_gi w p 5 = ((i + l.length : Nat) : Int) → (∀ j, j < l.length → bm_gl w (pg_tb p ((i + j : Nat) : Int)) 3 = V (l.getD j 0)) → pg_ta w p v n (i : Int) = y_ix V v l (i : Int)
  | 0, i, [], _, _, _ => rfl
  | 0, i, y :: l, h, _, _ => by simp at h
  | n + 1, i, [], _, h4, _ => by
    unfold pg_ta y_ix
    rw [if_pos (by rw [h4]; simp)]
  | n + 1, i, y :: l, h, h4, hn => by
    rw [List.length_cons] at h h4 hn
    unfold pg_ta y_ix
    have e0 : bm_gl w (pg_tb p (i : Int)) 3 = V y := hn 0 (by omega)
    rw [if_neg (by omega), e0]
    by_cases c : V y = v
    · rw [if_pos c, if_pos c]
    · rw [if_neg c, if_neg c]
      have := pg_ta_ix n (i + 1) l (by omega) (by rw [h4]; omega) (fun j hj => by
        have := hn (j + 1) (by omega)
        rw [show i + 1 + j = i + (j + 1) by omega]
        exact this)
      rw [show ((i : Int) + 1) = ((i + 1 : Nat) : Int) by omega]
      exact this
end NM
theorem q_gdm {α : Type} {l : List α} {a : α} {f : α → Nat} {j : Nat} (h : j < l.length) : (l.map f).getD j 0 = f (l.getD j a) := by
  rw [List.getD_eq_getElem?_getD, List.getElem?_map, List.getD_eq_getElem?_getD, List.getElem?_eq_getElem h]
  rfl
/-- inputs, as a function keeps them -/
def yi (f : Nat) (B : Int → Int) (ins : List y_in) (w : bm_W) : Prop := bm_gi w f 6 = (ins.length : Int) ∧ ins.length ≤ 3 ∧ (∀ i, i < ins.length → bm_gl w (f + 1) i = t_V B (ins.getD i y_i0).1 ∧ bm_gi w (f + 3) i = (ins.getD i y_i0).2.1 ∧ bm_gi w (f + 4) i = (ins.getD i y_i0).2.2 ∧ -20 ≤ (ins.getD i y_i0).2.1 ∧ (ins.getD i y_i0).2.1 ≤ (ins.getD i y_i0).2.2 ∧ (ins.getD i y_i0).2.2 ≤ 20) ∧ ∀ i, ins.length ≤ i → i < 3 → bm_gi w (f + 3) i = 0 ∧ bm_gi w (f + 4) i = 0
theorem yi.ix {f : Nat} {B : Int → Int} {ins : List y_in} {w : bm_W} {v : Int} (h : yi f B ins w) : fn_in w f v = y_ix (t_V B) v (ins.map (·.1)) 0 := by
  obtain ⟨h1, h2, h3, -⟩ := h
  unfold fn_in
  match ins, h1, h2, h3 with
  | [], h1, h2, h3 =>
    rw [h1]
    simp [y_ix]
  | [a], h1, h2, h3 =>
    have e0 := (h3 0 (by simp)).1
    rw [h1, e0]
    simp [y_ix]
  | [a, b], h1, h2, h3 =>
    have e0 := (h3 0 (by simp)).1
    have e1 := (h3 1 (by simp)).1
    rw [h1, e0, e1]
    simp [y_ix]
  | [a, b, c], h1, h2, h3 =>
    have e0 := (h3 0 (by simp)).1
    have e1 := (h3 1 (by simp)).1
    have e2 := (h3 2 (by simp)).1
    rw [h1, e0, e1, e2]
    simp [y_ix]
  | _ :: _ :: _ :: _ :: _, h1, h2, h3 => simp at h2
/-- what inputs may change -/
def nf (t f : Nat) (w w' : bm_W) : Prop := q_fr (fun a => a = t ∨ a = t + 112 ∨ a = f ∨ a = f + 1 ∨ a = f + 3 ∨ a = f + 4) w w' ∧ (∀ k, k ≠ 8 → k ≠ 9 → k ≠ 10 → bm_gi w' t k = bm_gi w t k) ∧ (∀ k, k ≠ 2 → k ≠ 3 → bm_gi w' (t + 112) k = bm_gi w (t + 112) k) ∧ (∀ k, k ≠ 6 → bm_gi w' f k = bm_gi w f k) ∧ ∀ a k, a ≠ f + 1 → bm_gl w' a k = bm_gl w a k
theorem nf.rf {t f : Nat} {w : bm_W} : nf t f w w := ⟨q_fr.rf, fun _ _ _ _ => rfl, fun _ _ _ => rfl, fun _ _ => rfl, fun _ _ _ => rfl⟩
theorem nf.tr {t f : Nat} {w w1 w2 : bm_W} (h : nf t f w w1) (h2 : nf t f w1 w2) : nf t f w w2 := ⟨h.1.tr h2.1, fun k a b c => (h2.2.1 k a b c).trans (h.2.1 k a b c), fun k a b => (h2.2.2.1 k a b).trans (h.2.2.1 k a b), fun k a => (h2.2.2.2.1 k a).trans (h.2.2.2.1 k a), fun a k z => (h2.2.2.2.2 a k z).trans (h.2.2.2.2 a k z)⟩
theorem tf.nf {t f : Nat} {w w' : bm_W} (h : tf t w w') (h1 : t + 7 ≤ f) (h2 : f ≤ t + 62) : nf t f w w' := ⟨h.1.mo (fun a z => by omega), h.2.1, h.2.2.1, fun k _ => by rw [h.1.gi (by omega)], fun a k _ => by rw [h.2.2.2]⟩
theorem nf.add {t f : Nat} {nm lo hi : Int} {w w' : bm_W} (h : nf t f w w') (h1 : t + 7 ≤ f) (h2 : f ≤ t + 62) : nf t f w (fn_add w' f nm lo hi) := by
  unfold fn_add
  split
  · rename_i c
    refine h.tr ⟨(rg_put_fr ((q_fr.rf).sq (by omega)) (by omega) (by omega)).si (by omega), fun k _ _ _ => ?_, fun k _ _ => ?_, fun k hk => ?_, fun a k ha => ?_⟩
    · rw [q_gi_ne (by omega)]
      unfold rg_put
      rw [if_pos c, q_gi_ne (by omega), q_gi_ne (by omega)]
      rfl
    · rw [q_gi_ne (by omega)]
      unfold rg_put
      rw [if_pos c, q_gi_ne (by omega), q_gi_ne (by omega)]
      rfl
    · rw [q_gi_nk hk]
      unfold rg_put
      rw [if_pos c, q_gi_ne (by omega), q_gi_ne (by omega)]
      rfl
    · show bm_gl (rg_put (bm_sq w' (f + 1) (bm_gi w' f 6).toNat nm) (f + 2) (bm_gi w' f 6) lo hi) a k = _
      unfold rg_put
      rw [if_pos c]
      exact q_gl_ne ha
  · exact h
