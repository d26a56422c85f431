/-! ===== meanings look at no more than their inputs ===== -/
def q_loc (k : Nat) (D : q_D) : Prop := ∀ (a a' : Nat → Int) (ch : Int), (∀ i, i < k → a i = a' i) → D a ch = D a' ch
section LOC
variable {k : Nat} {D D2 D3 : q_D} {Ds : List q_D}
theorem q_loc.num {v pl : Int} : q_loc k (d_num v pl) := fun _ _ _ _ => rfl
theorem q_loc.inp {i : Nat} (h : i < k) : q_loc k (d_in i) := fun a a' ch e => by
  show (some (a i), []) = (some (a' i), [])
  rw [e i h]
theorem q_loc.un {op : Int} (h : q_loc k D) : q_loc k (d_un op D) := fun a a' ch e => by
  show ((D a ch).1.map (t_un op), (D a ch).2) = _
  rw [h a a' ch e]
  rfl
theorem q_loc.bin {op pl : Int} (h : q_loc k D) (h2 : q_loc k D2) : q_loc k (d_bin op pl D D2) := fun a a' ch e => by
  unfold d_bin
  rw [h a a' ch e, h2 a a' ch e]
theorem q_loc.lo {op pl : Int} (h : q_loc k D) (h2 : q_loc k D2) : q_loc k (d_lo op pl D D2) := fun a a' ch e => by
  unfold d_lo
  rw [h a a' ch e, h2 a a' ch e]
theorem q_loc.iff {i pl : Int} (h : q_loc k D) (h2 : q_loc k D2) (h3 : q_loc k D3) : q_loc k (d_if i pl D D2 D3) := fun a a' ch e => by
  unfold d_if
  rw [h a a' ch e, h2 a a' ch e, h3 a a' ch e]
theorem d_args_loc {a a' : Nat → Int} {ch : Int} (e : ∀ i, i < k → a i = a' i) : ∀ Ds : List q_D, (∀ D ∈ Ds, q_loc k D) → d_args Ds a ch = d_args Ds a' ch
  | [], _ => rfl
  | D :: r, h => by
    have h1 := h D (List.mem_cons_self) a a' ch e
    have h2 := d_args_loc (ch := ch) e r (fun D hD => h D (List.mem_cons_of_mem _ hD))
    unfold d_args
    rw [h1, h2]
theorem q_loc.call {F : q_D} (h : ∀ D ∈ Ds, q_loc k D) : q_loc k (d_call F Ds) := fun a a' ch e => by
  unfold d_call
  rw [d_args_loc e Ds h]
theorem q_loc.op {u : Nat} {op pl : Int} (h : q_loc k D) (h2 : q_loc k D2) : q_loc k (m_op u op pl D D2) := by
  unfold m_op
  split
  · exact h.lo h2
  · exact h.bin h2
theorem q_loc.hd {l : List q_D} (h : ∀ D ∈ l, q_loc k D) : q_loc k (m_hd l) := by
  cases l with
  | nil => exact q_loc.num
  | cons D l => exact h D List.mem_cons_self
theorem m_bind_inr {r : q_M} {g : List q_D → Nat → q_M} {l : List q_D} {z : Nat} (h : m_bind r g = .inr (l, z)) : ∃ l1 z1, r = .inr (l1, z1) ∧ g l1 z1 = .inr (l, z) := by
  cases r with
  | inl e => cases h
  | inr y => exact ⟨y.1, y.2, rfl, h⟩
theorem m_add_inr {r : q_M} {l : List q_D} {z z0 : Nat} (h : m_add z0 r = .inr (l, z)) : ∃ z1, r = .inr (l, z1) := by
  cases r with
  | inl e => cases h
  | inr y =>
    have h' : (Sum.inr (y.1, z0 + y.2) : q_M) = .inr (l, z) := h
    injection h' with h'
    injection h' with h1 h2
    exact ⟨y.2, by rw [← h1]⟩
theorem q_one {l : List q_D} {z z' : Nat} (h : (Sum.inr ([D], z') : q_M) = .inr (l, z)) (hD : q_loc k D) : ∀ X ∈ l, q_loc k X := by
  injection h with h
  injection h with h1 h2
  subst h1
  intro X hX
  rw [List.mem_singleton] at hX
  rw [hX]; exact hD
theorem q_acc {acc l : List q_D} {z z' : Nat} (h : (Sum.inr (acc, z') : q_M) = .inr (l, z)) (hD : ∀ X ∈ acc, q_loc k X) : ∀ X ∈ l, q_loc k X := by
  injection h with h
  injection h with h1 h2
  subst h1
  exact hD
theorem m_ex_loc {K V : Nat → Int} {L : Nat} {P I : Nat → Nat} {E : q_E} (hE : ∀ v, E.1 v < (k : Int)) : ∀ (n u d p : Nat) (acc l : List q_D) (z : Nat), u ≤ 12 → (∀ D ∈ acc, q_loc k D) → m_ex K V L P I E n u d p acc = .inr (l, z) → ∀ D ∈ l, q_loc k D
  | 0, u, d, p, acc, l, z, _, ha, h => q_acc h ha
  | n + 1, u, d, p, acc, l, z, hu, ha, h => by
    have ih := m_ex_loc (K := K) (V := V) (L := L) (P := P) (I := I) hE n
    have nil : ∀ D ∈ ([] : List q_D), q_loc k D := fun D hD => by cases hD
    rcases f_modes hu with rfl | rfl | rfl | hv | hv
    · rw [m_ex_6] at h
      split at h
      · obtain ⟨l1, z1, e1, h⟩ := m_bind_inr h
        obtain ⟨l2, z2, e2, h⟩ := m_bind_inr h
        obtain ⟨l3, z3, e3, h⟩ := m_bind_inr h
        exact q_one h ((q_loc.hd (ih _ _ _ _ _ _ (by decide) nil e1)).iff (q_loc.hd (ih _ _ _ _ _ _ (by decide) nil e2)) (q_loc.hd (ih _ _ _ _ _ _ (by decide) nil e3)))
      · exact ih _ _ _ _ _ _ (by decide) ha h
    · rw [m_ex_5] at h
      split at h
      · exact q_one h q_loc.num
      split at h
      · split at h
        · split at h
          · cases h
          · obtain ⟨l1, z1, e1, h⟩ := m_bind_inr h
            obtain ⟨l2, z2, e2, h⟩ := m_bind_inr h
            split at h
            · refine q_one h (q_loc.call (ih _ _ _ _ _ _ (by decide) (fun D hD => ?_) e2))
              rw [List.mem_singleton] at hD
              rw [hD]
              exact q_loc.hd (ih _ _ _ _ _ _ (by decide) nil e1)
            · cases h
        · split at h
          · cases h
          · exact q_one h (q_loc.inp (by have := hE (V p); omega))
      · split at h
        · exact ih _ _ _ _ _ _ (by decide) nil h
        · obtain ⟨l1, z1, e1, h⟩ := m_bind_inr h
          exact q_one h ((q_loc.hd (ih _ _ _ _ _ _ (by decide) nil e1)).un)
    · rw [m_ex_12] at h
      split at h
      · obtain ⟨l1, z1, e1, h⟩ := m_bind_inr h
        obtain ⟨z2, h⟩ := m_add_inr h
        refine ih _ _ _ _ _ _ (by decide) (fun D hD => ?_) h
        rcases List.mem_append.mp hD with y | y
        · exact ha D y
        · rw [List.mem_singleton] at y
          rw [y]; exact q_loc.hd (ih _ _ _ _ _ _ (by decide) nil e1)
      · exact q_acc h ha
    · rw [m_ex_lv hv] at h
      obtain ⟨l1, z1, e1, h⟩ := m_bind_inr h
      obtain ⟨z2, h⟩ := m_add_inr h
      refine ih _ _ _ _ _ _ (by omega) (fun D hD => ?_) h
      rw [List.mem_singleton] at hD
      rw [hD]
      exact q_loc.hd (ih _ _ _ _ _ _ (by omega) nil e1)
    · rw [m_ex_lp hv.1 hv.2] at h
      split at h
      · obtain ⟨l1, z1, e1, h⟩ := m_bind_inr h
        have q1 := q_loc.hd (ih _ _ _ _ _ _ (by omega) nil e1)
        split at h
        · exact q_one h (q_loc.op (q_loc.hd ha) q1)
        · obtain ⟨z2, h⟩ := m_add_inr h
          refine ih _ _ _ _ _ _ (by omega) (fun D hD => ?_) h
          rw [List.mem_singleton] at hD
          rw [hD]
          exact q_loc.op (q_loc.hd ha) q1
      · exact q_acc h ha
end LOC
/-- functions that look at no more than their inputs -/
def y_lcs (pr : y_pr) : Prop := ∀ g, g < pr.1.length → q_loc (pr.1.getD g y_f0).2.1.length (pr.1.getD g y_f0).2.2.2.2
theorem y_fun_lcs {K V : Nat → Int} {pr pr' : y_pr} {p : Nat} (h : y_fun K V pr p = .inr pr') (hf : y_lcs pr) : y_lcs pr' := by
  rw [y_fun_eq] at h
  split at h
  · cases h
  split at h
  · cases h
  cases e1 : y_ins K V f_T [] (p + 3) with
  | inl e => rw [e1] at h; cases h
  | inr ins =>
    rw [e1, y_b_inr] at h
    unfold y_fun3 at h
    split at h
    · cases h
    · rename_i l z hm
      split at h
      · cases h
      · injection h with h
        rw [← h]
        intro g hg
        simp only at hg ⊢
        rw [List.length_append, List.length_singleton] at hg
        by_cases y : g = pr.1.length
        · rw [q_gde y]
          refine q_loc.hd (m_ex_loc (fun v => ?_) _ _ _ _ _ _ _ (by decide) (fun D hD => by cases hD) hm)
          have := y_ix_rng (V := V) (v := v) (ins.map (·.1)) 0 (Int.le_refl _)
          rw [List.length_map] at this
          show y_ix V v (ins.map (·.1)) 0 < (ins.length : Int)
          omega
        · rw [q_gdl (by omega)]; exact hf g (by omega)
theorem y_tab_fst {K V : Nat → Int} {pr pr' : y_pr} {p : Nat} (h : y_tab K V pr p = .inr pr') : pr'.1 = pr.1 := by
  unfold y_tab at h
  split at h
  · cases h
  split at h
  · cases h
  split at h
  · cases h
  cases e1 : y_rws K V (pr.1.getD (y_ix V (V (p + 3)) (pr.1.map (·.1)) 0).toNat y_f0).2.1 f_T [] (p + 5) with
  | inl e => rw [e1] at h; cases h
  | inr rows =>
    rw [e1, y_b_inr] at h
    injection h with h
    rw [← h]
theorem y_its_lcs {K V : Nat → Int} : ∀ (n : Nat) (pr pr' : y_pr) (p : Nat), y_its K V n pr p = .inr pr' → y_lcs pr → y_lcs pr'
  | 0, pr, pr', p, h, hf => by
    have h' : (Sum.inr pr : (Int × Nat) ⊕ y_pr) = .inr pr' := h
    injection h' with h'
    rw [← h']; exact hf
  | n + 1, pr, pr', p, h, hf => by
    rw [y_its_s] at h
    cases e1 : y_itm K V pr p with
    | inl e => rw [e1] at h; cases h
    | inr p1 =>
      rw [e1, y_b_inr] at h
      have a : y_lcs p1 := by
        unfold y_itm at e1
        split at e1
        · exact y_fun_lcs e1 hf
        · unfold y_lcs
          rw [y_tab_fst e1]
          exact hf
      split at h
      · exact y_its_lcs n p1 pr' _ h a
      · injection h with h
        rw [← h]; exact a
theorem y_cmp_lcs {K V : Nat → Int} {pr : y_pr} (h : y_cmp K V = .inr pr) : y_lcs pr := by
  unfold y_cmp at h
  split at h
  · cases h
  · exact y_its_lcs _ _ _ _ h (fun g hg => by cases hg)
