/-! ===== more of the class half ===== -/
/-! ===== meanings look at no more than their inputs ===== -/
section LOC
variable {k : Nat} {D D2 D3 : q_D} {Ds : List q_D}
theorem m_bind_inr {r : q_M} {g : List q_D → Nat → q_M} {l : List q_D} {z : Nat} (h : m_bind r g = .inr (l, z)) : ∃ l1 z1, r = .inr (l1, z1) ∧ g l1 z1 = .inr (l, z) := by
  cases r with
  | inl e => cases h
  | inr y => exact ⟨y.1, y.2, rfl, h⟩
theorem m_add_inr {r : q_M} {l : List q_D} {z z0 : Nat} (h : m_add z0 r = .inr (l, z)) : ∃ z1, r = .inr (l, z1) := by
  cases r with
  | inl e => cases h
  | inr y =>
    have h' : (Sum.inr (y.1, z0 + y.2) : q_M) = .inr (l, z) := h
    injection h' with h'
    injection h' with h1 h2
    exact ⟨y.2, by rw [← h1]⟩
theorem q_one {l : List q_D} {z z' : Nat} (h : (Sum.inr ([D], z') : q_M) = .inr (l, z)) (hD : q_loc k D) : ∀ X ∈ l, q_loc k X := by
  injection h with h
  injection h with h1 h2
  subst h1
  intro X hX
  rw [List.mem_singleton] at hX
  rw [hX]; exact hD
theorem q_acc {acc l : List q_D} {z z' : Nat} (h : (Sum.inr (acc, z') : q_M) = .inr (l, z)) (hD : ∀ X ∈ acc, q_loc k X) : ∀ X ∈ l, q_loc k X := by
  injection h with h
  injection h with h1 h2
  subst h1
  exact hD
theorem m_ex_loc {K V : Nat → Int} {L : Nat} {P I : Nat → Nat} {E : q_E} (hE : ∀ v, E.1 v < (k : Int)) : ∀ (n u d p : Nat) (acc l : List q_D) (z : Nat), u ≤ 12 → (∀ D ∈ acc, q_loc k D) → m_ex K V L P I E n u d p acc = .inr (l, z) → ∀ D ∈ l, q_loc k D
  | 0, u, d, p, acc, l, z, _, ha, h => q_acc h ha
  | n + 1, u, d, p, acc, l, z, hu, ha, h => by
    have ih := m_ex_loc (K := K) (V := V) (L := L) (P := P) (I := I) hE n
    have nil : ∀ D ∈ ([] : List q_D), q_loc k D := fun D hD => by cases hD
    rcases f_modes hu with rfl | rfl | rfl | hv | hv
    · rw [m_ex_6] at h
      split at h
      · obtain ⟨l1, z1, e1, h⟩ := m_bind_inr h
        obtain ⟨l2, z2, e2, h⟩ := m_bind_inr h
        obtain ⟨l3, z3, e3, h⟩ := m_bind_inr h
        exact q_one h ((q_loc.hd (ih _ _ _ _ _ _ (by decide) nil e1)).iff (q_loc.hd (ih _ _ _ _ _ _ (by decide) nil e2)) (q_loc.hd (ih _ _ _ _ _ _ (by decide) nil e3)))
      · exact ih _ _ _ _ _ _ (by decide) ha h
    · rw [m_ex_5] at h
      split at h
      · exact q_one h q_loc.num
      split at h
      · split at h
        · split at h
          · cases h
          · obtain ⟨l1, z1, e1, h⟩ := m_bind_inr h
            obtain ⟨l2, z2, e2, h⟩ := m_bind_inr h
            split at h
            · refine q_one h (q_loc.call (ih _ _ _ _ _ _ (by decide) (fun D hD => ?_) e2))
              rw [List.mem_singleton] at hD
              rw [hD]
              exact q_loc.hd (ih _ _ _ _ _ _ (by decide) nil e1)
            · cases h
        · split at h
          · cases h
          · exact q_one h (q_loc.inp (by have := hE (V p); omega))
      · split at h
        · exact ih _ _ _ _ _ _ (by decide) nil h
        · obtain ⟨l1, z1, e1, h⟩ := m_bind_inr h
          exact q_one h ((q_loc.hd (ih _ _ _ _ _ _ (by decide) nil e1)).un)
    · rw [m_ex_12] at h
      split at h
      · obtain ⟨l1, z1, e1, h⟩ := m_bind_inr h
        obtain ⟨z2, h⟩ := m_add_inr h
        refine ih _ _ _ _ _ _ (by decide) (fun D hD => ?_) h
        rcases List.mem_append.mp hD with y | y
        · exact ha D y
        · rw [List.mem_singleton] at y
          rw [y]; exact q_loc.hd (ih _ _ _ _ _ _ (by decide) nil e1)
      · exact q_acc h ha
    · rw [m_ex_lv hv] at h
      obtain ⟨l1, z1, e1, h⟩ := m_bind_inr h
      obtain ⟨z2, h⟩ := m_add_inr h
      refine ih _ _ _ _ _ _ (by omega) (fun D hD => ?_) h
      rw [List.mem_singleton] at hD
      rw [hD]
      exact q_loc.hd (ih _ _ _ _ _ _ (by omega) nil e1)
    · rw [m_ex_lp hv.1 hv.2] at h
      split at h
      · obtain ⟨l1, z1, e1, h⟩ := m_bind_inr h
        have q1 := q_loc.hd (ih _ _ _ _ _ _ (by omega) nil e1)
        split at h
        · exact q_one h (q_loc.op (q_loc.hd ha) q1)
        · obtain ⟨z2, h⟩ := m_add_inr h
          refine ih _ _ _ _ _ _ (by omega) (fun D hD => ?_) h
          rw [List.mem_singleton] at hD
          rw [hD]
          exact q_loc.op (q_loc.hd ha) q1
      · exact q_acc h ha
end LOC
theorem y_fun_lcs {K V : Nat → Int} {pr pr' : y_pr} {p : Nat} (h : y_fun K V pr p = .inr pr') (hf : y_lcs pr) : y_lcs pr' := by
  rw [y_fun_eq] at h
  split at h
  · cases h
  split at h
  · cases h
  cases e1 : y_ins K V f_T [] (p + 3) with
  | inl e => rw [e1] at h; cases h
  | inr ins =>
    rw [e1, y_b_inr] at h
    unfold y_fun3 at h
    split at h
    · cases h
    · rename_i l z hm
      split at h
      · cases h
      · injection h with h
        rw [← h]
        intro g hg
        simp only at hg ⊢
        rw [List.length_append, List.length_singleton] at hg
        by_cases y : g = pr.1.length
        · rw [q_gde y]
          refine q_loc.hd (m_ex_loc (fun v => ?_) _ _ _ _ _ _ _ (by decide) (fun D hD => by cases hD) hm)
          have := y_ix_rng (V := V) (v := v) (ins.map (·.1)) 0 (Int.le_refl _)
          rw [List.length_map] at this
          show y_ix V v (ins.map (·.1)) 0 < (ins.length : Int)
          omega
        · rw [q_gdl (by omega)]; exact hf g (by omega)
theorem y_tab_fst {K V : Nat → Int} {pr pr' : y_pr} {p : Nat} (h : y_tab K V pr p = .inr pr') : pr'.1 = pr.1 := by
  unfold y_tab at h
  split at h
  · cases h
  split at h
  · cases h
  split at h
  · cases h
  cases e1 : y_rws K V (pr.1.getD (y_ix V (V (p + 3)) (pr.1.map (·.1)) 0).toNat y_f0).2.1 f_T [] (p + 5) with
  | inl e => rw [e1] at h; cases h
  | inr rows =>
    rw [e1, y_b_inr] at h
    injection h with h
    rw [← h]
theorem y_its_lcs {K V : Nat → Int} : ∀ (n : Nat) (pr pr' : y_pr) (p : Nat), y_its K V n pr p = .inr pr' → y_lcs pr → y_lcs pr'
  | 0, pr, pr', p, h, hf => by
    have h' : (Sum.inr pr : (Int × Nat) ⊕ y_pr) = .inr pr' := h
    injection h' with h'
    rw [← h']; exact hf
  | n + 1, pr, pr', p, h, hf => by
    rw [y_its_s] at h
    cases e1 : y_itm K V pr p with
    | inl e => rw [e1] at h; cases h
    | inr p1 =>
      rw [e1, y_b_inr] at h
      have a : y_lcs p1 := by
        unfold y_itm at e1
        split at e1
        · exact y_fun_lcs e1 hf
        · unfold y_lcs
          rw [y_tab_fst e1]
          exact hf
      split at h
      · exact y_its_lcs n p1 pr' _ h a
      · injection h with h
        rw [← h]; exact a
theorem y_cmp_lcs {K V : Nat → Int} {pr : y_pr} (h : y_cmp K V = .inr pr) : y_lcs pr := by
  unfold y_cmp at h
  split at h
  · cases h
  · exact y_its_lcs _ _ _ _ h (fun g hg => by cases hg)
/-! ===== what both compiles leave ===== -/
def y_of (r : (Int × Nat) ⊕ y_pr) : y_pr := match r with
  | .inl _ => ([], [])
  | .inr pr => pr
def y_ifs (r : (Int × Nat) ⊕ y_pr) (n : Nat) : Nat := match r with
  | .inl _ => 0
  | .inr _ => n
section BC
variable {b t m N : Nat} {B : Int → Int} {pr : y_pr} {w : bm_W} {x pl : Int}
theorem ans_cZ {K V : Nat → Int} {nI : Nat} (h : cI b t w) (ha : ans_c t B (y_cmp K V) nI x pl w) (hb : y_tbs (y_of (y_cmp K V))) (h2 : bm_gi w (t + 117) 2 = 0) (h6 : bm_gi w (t + 113) 6 = 0) : cZ b t B (y_of (y_cmp K V)) w ∧ bm_gi w (t + 4) 6 = ((y_ifs (y_cmp K V) nI : Nat) : Int) := by
  cases hr : y_cmp K V with
  | inl e =>
    rw [hr] at ha hb
    obtain ⟨a1, a2, a3, a4, a5, a6⟩ := ha
    exact ⟨cZ.of h ⟨a4, Nat.zero_le _, fun g hg => (by cases hg)⟩ ⟨a5, Nat.zero_le _, fun g hg => (by cases hg)⟩ hb (fun g hg => (by cases hg)) h2 h6, a6⟩
  | inr pr =>
    rw [hr] at ha hb
    obtain ⟨a1, a2, a3, a4, a5⟩ := ha
    exact ⟨cZ.of h a3 a4 hb (y_cmp_lcs hr) h2 h6, a5⟩
end BC
/-! ===== the law's steps, both sides ===== -/
section IN
variable {pr : y_pr} {k : Nat}
theorem y_inr_gp (hin : y_inr pr) (hk : k < pr.2.length) (hf : y_fk (y_tF pr k).2.1) : y_inr (y_gp pr k) := fun j hj i hi c hc => by
  rw [y_gp_len] at hj
  rw [y_gp_F hk]
  rw [y_gp_r hk] at hi ⊢
  by_cases e : j = k
  · subst e
    rw [if_pos rfl] at hi ⊢
    rw [List.length_append, List.length_singleton] at hi
    by_cases z : i < (pr.2.getD j y_t0).2.2.length
    · rw [q_gdl z]
      exact hin j hj i z c hc
    · rw [q_gde (by omega), y_gR_c hf]
      have v := s_val_rng (k := y_pp pr (pr.2.getD j y_t0).2.1) (i := c) (y_rg_lk hf)
      exact ⟨v.2.2.1, v.2.2.2⟩
  · rw [if_neg e] at hi ⊢
    exact hin j hj i hi c hc
theorem s_sh_mem {D : q_D} {P : Nat} {R : y_rw} : ∀ (n : Nat) (rows : List y_rw), R ∈ s_sh D P n rows → R ∈ rows
  | 0, rows, h => h
  | n + 1, rows, h => by
    rw [s_sh_s] at h
    split at h
    · split at h
      · exact List.mem_of_mem_eraseIdx (s_sh_mem n _ h)
      · exact s_sh_mem n _ h
    · exact h
theorem y_inr_st {rows : List y_rw} (hin : y_inr pr) (hk : k < pr.2.length) (hr : ∀ R, R ∈ rows → R ∈ (pr.2.getD k y_t0).2.2) : y_inr (y_st pr k rows) := fun j hj i hi c hc => by
  rw [y_st_len] at hj
  rw [y_st_F hk]
  rw [y_st_r hk] at hi ⊢
  by_cases e : j = k
  · subst e
    rw [if_pos rfl] at hi ⊢
    have e1 : rows.getD i y_r0 = rows[i] := by rw [List.getD_eq_getElem?_getD, List.getElem?_eq_getElem hi]; rfl
    obtain ⟨i', hi', e2⟩ := List.getElem_of_mem (hr rows[i] (List.getElem_mem hi))
    have e3 : (pr.2.getD j y_t0).2.2.getD i' y_r0 = rows[i] := by rw [List.getD_eq_getElem?_getD, List.getElem?_eq_getElem hi', e2]; rfl
    rw [e1, ← e3]
    exact hin j hj i' hi' c hc
  · rw [if_neg e] at hi ⊢
    exact hin j hj i hi c hc
end IN
section LS
variable {d b t nI L c s x y c' s' mc ms lm Y : Nat} {as : List bm_V} {v : bm_V} {B : Int → Int} {pr pr' : y_pr} {D : Nat → Int} {e : Int} {w w1 w' : bm_W} {E1 E2 : String}
end LS
