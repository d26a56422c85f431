/-! ===== rows lie within the ranges of the inputs ===== -/
/-- cells within the ranges -/
def y_rin (ins : List y_in) (l : List (Int × Int)) : Prop := ∀ j, j < l.length → (ins.getD j y_i0).2.1 ≤ (l.getD j (0, 0)).1 ∧ (l.getD j (0, 0)).2 ≤ (ins.getD j y_i0).2.2
theorem y_rin.app {ins : List y_in} {l : List (Int × Int)} {a : Int × Int} (h : y_rin ins l) (h1 : (ins.getD l.length y_i0).2.1 ≤ a.1) (h2 : a.2 ≤ (ins.getD l.length y_i0).2.2) : y_rin ins (l ++ [a]) := fun j hj => by
  rw [List.length_append, List.length_singleton] at hj
  by_cases z : j = l.length
  · subst z
    rw [q_gde rfl]
    exact ⟨h1, h2⟩
  · rw [q_gdl (by omega)]
    exact h j (by omega)
theorem y_cel_in {K V : Nat → Int} {ins : List y_in} {c p : Nat} {l : List (Int × Int)} (h : y_cel K V ins c p = .inr l) : (c < ins.length → ∃ a : Int × Int, l = [a] ∧ (ins.getD c y_i0).2.1 ≤ a.1 ∧ a.2 ≤ (ins.getD c y_i0).2.2) ∧ (¬ c < ins.length → l = []) := by
  unfold y_cel at h
  split at h
  · rename_i hc
    refine ⟨fun _ => ?_, fun z => absurd hc z⟩
    split at h
    · injection h with h
      exact ⟨_, h.symm, Int.le_refl _, Int.le_refl _⟩
    · cases e1 : y_wh K V p (ins.getD c y_i0).2.1 (ins.getD c y_i0).2.2 with
      | inl e => rw [e1] at h; cases h
      | inr one =>
        rw [e1, y_b_inr] at h
        have r1 := y_wh_rng e1
        split at h
        · cases e2 : y_wh K V ((f_wh K (false, p)).2 + 1) one (ins.getD c y_i0).2.2 with
          | inl e => rw [e2] at h; cases h
          | inr other =>
            rw [e2, y_b_inr] at h
            have r2 := y_wh_rng e2
            injection h with h
            exact ⟨_, h.symm, r1.1, r2.2⟩
        · injection h with h
          exact ⟨_, h.symm, r1.1, r1.2⟩
  · rename_i hc
    injection h with h
    exact ⟨fun z => absurd z hc, fun _ => h.symm⟩
theorem y_cls_c {K V : Nat → Int} {ins : List y_in} {n : Nat} {l : List (Int × Int)} {c p : Nat} : y_cls K V ins (n + 1) l c p = y_b (y_cel K V ins c p) fun l' => if f_see K f_T (f_cel K (false, p)) 18 18 then y_cls K V ins n (l ++ l') (c + 1) ((f_cel K (false, p)).2 + 1) else .inr (l ++ l', c + 1) := rfl
theorem y_cls_in {K V : Nat → Int} {ins : List y_in} : ∀ (n : Nat) (l : List (Int × Int)) (c p : Nat) (r : List (Int × Int) × Nat), y_cls K V ins n l c p = .inr r → l.length = min c ins.length → y_rin ins l → y_rin ins r.1
  | 0, l, c, p, r, h, hl, hi => by
    have h' : (Sum.inr (l, c) : (Int × Nat) ⊕ (List (Int × Int) × Nat)) = .inr r := h
    injection h' with h'
    rw [← h']; exact hi
  | n + 1, l, c, p, r, h, hl, hi => by
    rw [y_cls_c] at h
    have l1 : c < ins.length → l.length = c ∧ c + 1 = min (c + 1) ins.length := fun z => ⟨by omega, by omega⟩
    have l2 : ¬ c < ins.length → l.length = min (c + 1) ins.length := fun z => by omega
    cases e1 : y_cel K V ins c p with
    | inl e => rw [e1] at h; cases h
    | inr l' =>
      rw [e1, y_b_inr] at h
      obtain ⟨a1, a2⟩ := y_cel_in e1
      have hi2 : y_rin ins (l ++ l') ∧ (l ++ l').length = min (c + 1) ins.length := by
        by_cases z : c < ins.length
        · obtain ⟨a, b1, b2, b3⟩ := a1 z
          have el := (l1 z).1
          rw [b1]
          refine ⟨hi.app (by rw [el]; exact b2) (by rw [el]; exact b3), ?_⟩
          rw [List.length_append, List.length_singleton, el]
          exact (l1 z).2
        · rw [a2 z, List.append_nil]
          exact ⟨hi, l2 z⟩
      split at h
      · exact y_cls_in n _ _ _ r h hi2.2 hi2.1
      · injection h with h
        rw [← h]; exact hi2.1
/-- rows within the ranges -/
def y_rsin (ins : List y_in) (rows : List y_rw) : Prop := ∀ i, i < rows.length → y_rin ins (rows.getD i y_r0).1
theorem y_row_in {K V : Nat → Int} {ins : List y_in} {rows rows' : List y_rw} {p : Nat} (h : y_row K V ins rows p = .inr rows') (hr : y_rsin ins rows) : y_rsin ins rows' := by
  unfold y_row at h
  split at h
  · cases h
  cases e1 : y_cls K V ins f_T [] 0 p with
  | inl e => rw [e1] at h; cases h
  | inr lc =>
    rw [e1, y_b_inr] at h
    have a := y_cls_in f_T [] 0 p lc e1 (by simp) (fun j hj => by cases hj)
    split at h
    · cases h
    split at h
    · cases h
    injection h with h
    rw [← h]
    intro i hi
    rw [List.length_append, List.length_singleton] at hi
    by_cases z : i = rows.length
    · rw [q_gde z]; exact a
    · rw [q_gdl (by omega)]; exact hr i (by omega)
theorem y_rws_c {K V : Nat → Int} {ins : List y_in} {n : Nat} {rows : List y_rw} {p : Nat} : y_rws K V ins (n + 1) rows p = y_b (y_row K V ins rows p) fun rows' => if f_see K f_T (f_row K (false, p)) 21 21 then y_rws K V ins n rows' ((f_row K (false, p)).2 + 1) else .inr rows' := rfl
theorem y_rws_in {K V : Nat → Int} {ins : List y_in} : ∀ (n : Nat) (rows rows' : List y_rw) (p : Nat), y_rws K V ins n rows p = .inr rows' → y_rsin ins rows → y_rsin ins rows'
  | 0, rows, rows', p, h, hr => by
    have h' : (Sum.inr rows : (Int × Nat) ⊕ List y_rw) = .inr rows' := h
    injection h' with h'
    rw [← h']; exact hr
  | n + 1, rows, rows', p, h, hr => by
    rw [y_rws_c] at h
    cases e1 : y_row K V ins rows p with
    | inl e => rw [e1] at h; cases h
    | inr r1 =>
      rw [e1, y_b_inr] at h
      have a := y_row_in e1 hr
      split at h
      · exact y_rws_in n _ _ _ h a
      · injection h with h
        rw [← h]; exact a
/-- tables of functions that are there, their rows within the ranges -/
def y_ind (pr : y_pr) : Prop := ∀ k, k < pr.2.length → (pr.2.getD k y_t0).2.1 < pr.1.length ∧ y_rsin (y_tF pr k).2.1 (pr.2.getD k y_t0).2.2
theorem y_fun_snd {K V : Nat → Int} {pr pr' : y_pr} {p : Nat} (h : y_fun K V pr p = .inr pr') : ∃ F : y_fn, pr' = (pr.1 ++ [F], pr.2) := by
  rw [y_fun_eq] at h
  split at h
  · cases h
  split at h
  · cases h
  cases e1 : y_ins K V f_T [] (p + 3) with
  | inl e => rw [e1] at h; cases h
  | inr ins =>
    rw [e1, y_b_inr] at h
    unfold y_fun3 at h
    split at h
    · cases h
    · split at h
      · cases h
      · injection h with h
        exact ⟨_, h.symm⟩
theorem y_ind.fn {pr : y_pr} (h : y_ind pr) (F : y_fn) : y_ind (pr.1 ++ [F], pr.2) := fun k hk => by
  obtain ⟨a, b⟩ := h k hk
  refine ⟨by show (pr.2.getD k y_t0).2.1 < (pr.1 ++ [F]).length; rw [List.length_append]; omega, ?_⟩
  have e : y_tF (pr.1 ++ [F], pr.2) k = y_tF pr k := q_gdl a
  rw [e]; exact b
theorem y_tab_ind {K V : Nat → Int} {pr pr' : y_pr} {p : Nat} (h : y_tab K V pr p = .inr pr') (hi : y_ind pr) : y_ind pr' := by
  unfold y_tab at h
  split at h
  · cases h
  split at h
  · cases h
  split at h
  · cases h
  rename_i hx
  cases e1 : y_rws K V (pr.1.getD (y_ix V (V (p + 3)) (pr.1.map (·.1)) 0).toNat y_f0).2.1 f_T [] (p + 5) with
  | inl e => rw [e1] at h; cases h
  | inr rows =>
    rw [e1, y_b_inr] at h
    injection h with h
    have a := y_rws_in f_T [] rows (p + 5) e1 (fun j hj => by cases hj)
    have rg := y_ix_rng (V := V) (v := V (p + 3)) (pr.1.map (·.1)) 0 (Int.le_refl _)
    rw [List.length_map] at rg
    rw [← h]
    intro k hk
    have hk' : k < pr.2.length + 1 := by simpa using hk
    by_cases z : k = pr.2.length
    · have e : (pr.2 ++ [(p + 1, (y_ix V (V (p + 3)) (pr.1.map (·.1)) 0).toNat, rows)]).getD k y_t0 = (p + 1, (y_ix V (V (p + 3)) (pr.1.map (·.1)) 0).toNat, rows) := q_gde z
      unfold y_tF
      simp only
      rw [e]
      exact ⟨by show (y_ix V (V (p + 3)) (pr.1.map (·.1)) 0).toNat < pr.1.length; omega, a⟩
    · have e : (pr.2 ++ [(p + 1, (y_ix V (V (p + 3)) (pr.1.map (·.1)) 0).toNat, rows)]).getD k y_t0 = pr.2.getD k y_t0 := q_gdl (by omega)
      unfold y_tF
      simp only
      rw [e]
      exact hi k (by omega)
theorem y_its_ind {K V : Nat → Int} : ∀ (n : Nat) (pr pr' : y_pr) (p : Nat), y_its K V n pr p = .inr pr' → y_ind pr → y_ind pr'
  | 0, pr, pr', p, h, hf => by
    have h' : (Sum.inr pr : (Int × Nat) ⊕ y_pr) = .inr pr' := h
    injection h' with h'
    rw [← h']; exact hf
  | n + 1, pr, pr', p, h, hf => by
    rw [y_its_s] at h
    cases e1 : y_itm K V pr p with
    | inl e => rw [e1] at h; cases h
    | inr p1 =>
      rw [e1, y_b_inr] at h
      have a : y_ind p1 := by
        unfold y_itm at e1
        split at e1
        · obtain ⟨F, e⟩ := y_fun_snd e1
          rw [e]
          exact hf.fn F
        · exact y_tab_ind e1 hf
      split at h
      · exact y_its_ind n p1 pr' _ h a
      · injection h with h
        rw [← h]; exact a
theorem y_cmp_ind {K V : Nat → Int} {pr : y_pr} (h : y_cmp K V = .inr pr) : y_ind pr := by
  unfold y_cmp at h
  split at h
  · cases h
  · exact y_its_ind _ _ _ _ h (fun g hg => by cases hg)
theorem y_ind.inr {pr : y_pr} (h : y_ind pr) (hb : y_tbs pr) : y_inr pr := fun k hk i hi c hc => by
  have a := (h k hk).2 i hi
  have r := (hb k hk).2.2 i hi
  rw [y_rg_at]
  by_cases z : c < ((pr.2.getD k y_t0).2.2.getD i y_r0).1.length
  · exact a c z
  · have e1 : ((pr.2.getD k y_t0).2.2.getD i y_r0).1.getD c (0, 0) = (0, 0) := by rw [List.getD_eq_getElem?_getD, List.getElem?_eq_none (by omega)]; rfl
    have e2 : (y_tF pr k).2.1.getD c y_i0 = y_i0 := by rw [List.getD_eq_getElem?_getD, List.getElem?_eq_none (by have := r.1; omega)]; rfl
    rw [e1, e2]
    exact ⟨Int.le_refl _, Int.le_refl _⟩
theorem y_of_inr {K V : Nat → Int} (hb : y_tbs (y_of (y_cmp K V))) : y_inr (y_of (y_cmp K V)) := by
  cases hr : y_cmp K V with
  | inl e => exact fun k hk => (by cases hk)
  | inr pr =>
    rw [hr] at hb
    exact (y_cmp_ind hr).inr hb
