/-! ===== a table grows, in the class ===== -/
/-- the values, the row, the program that growing gives -/
def y_gv (pr : y_pr) (k : Nat) : Nat → Int := s_val (y_rg (y_tF pr k).2.1) (y_pp pr (pr.2.getD k y_t0).2.1)
def y_gw (pr : y_pr) (k : Nat) : Option Int := ((y_tF pr k).2.2.2.2 (y_gv pr k) (-1)).1
def y_gR (pr : y_pr) (k : Nat) : y_rw := ((List.range (y_tF pr k).2.1.length).map (fun i => (y_gv pr k i, y_gv pr k i)), (if (y_gw pr k).isSome = true then 22 else 15), (y_gw pr k).getD 0)
def y_gp (pr : y_pr) (k : Nat) : y_pr := (pr.1, pr.2.set k ((pr.2.getD k y_t0).1, (pr.2.getD k y_t0).2.1, (pr.2.getD k y_t0).2.2 ++ [y_gR pr k]))
/-- whether a table can grow -/
def y_gok (pr : y_pr) (k : Nat) : Prop := 0 ≤ y_pp pr (pr.2.getD k y_t0).2.1 ∧ (pr.2.getD k y_t0).2.2.length < 12 ∧ y_ct (pr.2.getD k y_t0).2.2 < 100
theorem q_set {α : Type} {l : List α} {k j : Nat} {x z : α} (hk : k < l.length) : (l.set k x).getD j z = if j = k then x else l.getD j z := by
  rw [List.getD_eq_getElem?_getD, List.getD_eq_getElem?_getD]
  by_cases c : j = k
  · subst c
    rw [if_pos rfl, List.getElem?_set_self hk]
    rfl
  · rw [if_neg c, List.getElem?_set_ne (fun z => c z.symm)]
section YG
variable {pr : y_pr} {k : Nat}
theorem y_gp_len : (y_gp pr k).2.length = pr.2.length := List.length_set
theorem y_gp_at (hk : k < pr.2.length) (j : Nat) : (y_gp pr k).2.getD j y_t0 = if j = k then ((pr.2.getD k y_t0).1, (pr.2.getD k y_t0).2.1, (pr.2.getD k y_t0).2.2 ++ [y_gR pr k]) else pr.2.getD j y_t0 := q_set hk
theorem y_gp_f (hk : k < pr.2.length) (j : Nat) : ((y_gp pr k).2.getD j y_t0).2.1 = (pr.2.getD j y_t0).2.1 := by
  rw [y_gp_at hk]
  by_cases c : j = k
  · subst c
    rw [if_pos rfl]
  · rw [if_neg c]
theorem y_gp_F (hk : k < pr.2.length) (j : Nat) : y_tF (y_gp pr k) j = y_tF pr j := by
  unfold y_tF
  rw [y_gp_f hk]
  rfl
theorem y_gp_r (hk : k < pr.2.length) (j : Nat) : ((y_gp pr k).2.getD j y_t0).2.2 = if j = k then (pr.2.getD k y_t0).2.2 ++ [y_gR pr k] else (pr.2.getD j y_t0).2.2 := by
  rw [y_gp_at hk]
  by_cases c : j = k
  · rw [if_pos c, if_pos c]
  · rw [if_neg c, if_neg c]
theorem y_gR_len : (y_gR pr k).1.length = (y_tF pr k).2.1.length := by unfold y_gR; simp
theorem y_gv_no (hf : y_fk (y_tF pr k).2.1) {c : Nat} (hc : (y_tF pr k).2.1.length ≤ c) : y_gv pr k c = 0 := s_val_no (y_rg_lk hf) (by rw [y_rg_len]; exact hc)
theorem y_gR_c (hf : y_fk (y_tF pr k).2.1) (c : Nat) : (y_gR pr k).1.getD c (0, 0) = (y_gv pr k c, y_gv pr k c) := by
  rcases Nat.lt_or_ge c (y_tF pr k).2.1.length with z | z
  · unfold y_gR
    simp only
    rw [List.getD_eq_getElem?_getD, List.getElem?_map, List.getElem?_range z]
    rfl
  · rw [List.getD_eq_getElem?_getD, List.getElem?_eq_none (by rw [y_gR_len]; exact z), y_gv_no hf z]
    rfl
theorem y_gR_k (hf : y_fk (y_tF pr k).2.1) : y_rk (y_tF pr k).2.1.length (y_gR pr k) := by
  refine ⟨y_gR_len, fun c hc => ?_, ?_⟩
  · rw [y_gR_c hf]
    have := s_val_rng (k := y_pp pr (pr.2.getD k y_t0).2.1) (i := c) (y_rg_lk hf)
    exact ⟨this.1, Int.le_refl _, this.2.1⟩
  · unfold y_gR
    simp only
    split
    · exact Or.inr (Or.inr ⟨by decide, by decide⟩)
    · exact Or.inr (Or.inl rfl)
theorem y_gR_cs (hf : y_fk (y_tF pr k).2.1) (h3 : (y_tF pr k).2.1.length ≤ 3) : y_cs (y_gR pr k).1 = 1 := by
  rw [y_cs_eq (by rw [y_gR_len]; exact h3)]
  have e : ∀ c, s_n (y_gR pr k).1 c = 1 := fun c => by
    unfold s_n y_wd
    rw [y_gR_c hf]
    simp only
    omega
  rw [e, e, e]
  rfl
end YG
section GC
variable {d b t k : Nat} {B : Int → Int} {pr : y_pr} {w w' : bm_W} {Φ : bm_Rt → bm_W → Prop}
theorem cZ.fk (h : cZ b t B pr w) {g : Nat} (hg : g < pr.1.length) : y_fk (pr.1.getD g y_f0).2.1 := fun i hi => by
  have := (h.2.2.1.2.2 g hg).2.1.2.2.1 i hi
  exact ⟨this.2.2.2.1, this.2.2.2.2.1, this.2.2.2.2.2⟩
theorem cZ.fidx (h : cZ b t B pr w) (hk : k < pr.2.length) : (pr.2.getD k y_t0).2.1 < pr.1.length ∨ y_tF pr k = y_f0 := by
  rcases Nat.lt_or_ge (pr.2.getD k y_t0).2.1 pr.1.length with z | z
  · exact Or.inl z
  · exact Or.inr (by unfold y_tF; rw [List.getD_eq_getElem?_getD, List.getElem?_eq_none z]; rfl)
/-- a case is added: the values are put -/
theorem ac_24 {r all : Nat} {L : List (Int × Int)} {idx : Int} (hL : rgl all L w) (hR : sh_Rw r w) (h0 : 0 ≤ idx) (h1 : idx < 2147483648) (ha : all + 2 < r) (T : Nat) (hq : ∀ w', q_fr (fun a => a = r + 2 ∨ a = r + 3) w w' → (∀ c, c < 3 → bm_gi w' (r + 2) c = s_val L idx c ∧ bm_gi w' (r + 3) c = s_val L idx c) → bk_X11_addCase_24 (d + 23) Φ b T idx all r 3 w') : ∀ (rem c : Nat) (w1 : bm_W), c + rem = 3 → q_fr (fun a => a = r + 2 ∨ a = r + 3) w w1 → (∀ x, x < c → bm_gi w1 (r + 2) x = s_val L idx x ∧ bm_gi w1 (r + 3) x = s_val L idx x) → bk_X11_addCase_24 (d + 23) Φ b T idx all r (c : Int) w1
  | 0, c, w1, hc, hf, hx => by
    have : c = 3 := by omega
    subst this
    exact hq w1 hf hx
  | rem + 1, c, w1, hc, hf, hx => by
    have c3 : c < 3 := by omega
    have L1 := hL.fr hf (fun a _ _ => by omega)
    have R1 := hR.fr hf
    refine vb_X11_addCase_24 ?_
    rw [if_neg (fun z => by have := of_decide_eq_true z; omega)]
    simp only [bm_c0_v, bm_c1_v, bm_c2_v, bm_c3_v, bm_c4_v, bm_c5_v, bm_u_some, decide_eq_true_eq, true_and, and_true, and_self, Bool.not_eq_true, Bool.not_eq_true', decide_eq_false_iff_not, if_true, if_false, ite_true, ite_false, eq_self, L1.1.1, sp_valueAt (d := d + 20) L1 c3 h0 h1, R1.1, R1.2.1, R1.2.2.1, sp_put (d := d + 22) R1.2.2, bm_w1 (show c < 2147483647 by omega)]
    refine ac_24 hL hR h0 h1 ha T hq rem (c + 1) _ (by omega) (rg_put_fr hf (Or.inl rfl) (Or.inr rfl)) (fun x hx2 => ?_)
    have e := q_gi_rgp (r := r) (w4 := w1) (a := s_val L idx c) (b := s_val L idx c) (j := x) c3
    rw [e.1, e.2]
    by_cases z : x = c
    · rw [if_pos z, if_pos z, z]
      exact ⟨rfl, rfl⟩
    · rw [if_neg z, if_neg z]
      exact hx x (by omega)
end GC
