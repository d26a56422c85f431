/-! ===== rows are copied, in the model ===== -/
/-- row j of the model's tables is what row j0 was -/
def mRw (m : Nat) (w0 : bm_W) (j0 : Nat) (w : bm_W) (j : Nat) : Prop := bm_gi w (m + 26) j = bm_gi w0 (m + 26) j0 ∧ bm_gl w (m + 27) j = bm_gl w0 (m + 27) j0 ∧ ∀ c, c < 3 → bm_gi w (m + 24) (j * 3 + c) = bm_gi w0 (m + 24) (j0 * 3 + c) ∧ bm_gi w (m + 25) (j * 3 + c) = bm_gi w0 (m + 25) (j0 * 3 + c)
section CR
variable {d m k a b : Nat} {B : Int → Int} {pr : y_pr} {rows : List y_rw} {w w0 w' w1 : bm_W} {Φ : bm_Rt → bm_W → Prop}
theorem mRw.rf {j : Nat} : mRw m w j w j := ⟨rfl, rfl, fun _ _ => ⟨rfl, rfl⟩⟩
theorem mRw.tr {j0 j1 j : Nat} (h : mRw m w0 j0 w1 j1) (h2 : mRw m w1 j1 w j) : mRw m w0 j0 w j := ⟨h2.1.trans h.1, h2.2.1.trans h.2.1, fun c hc => ⟨(h2.2.2 c hc).1.trans (h.2.2 c hc).1, (h2.2.2 c hc).2.trans (h.2.2 c hc).2⟩⟩
theorem mRw.mrw {k i : Nat} {R : y_rw} (h : mrw m k i R w0) (hR : R.1.length ≤ 3) {k' i' : Nat} (he : mRw m w0 (12 * k + i) w (12 * k' + i')) : mrw m k' i' R w := by
  refine ⟨fun c hc => ?_, he.1.trans h.2.1, he.2.1.trans h.2.2⟩
  have := he.2.2 c (by omega)
  rw [this.1, this.2]
  exact h.1 c hc
theorem cr_47 (hab : a ≠ b) (ha : a < 72) (hb : b < 72) (w0 : bm_W) (S : sh_Md m w0) (hq : ∀ w', q_fr (fun x => x = m + 24 ∨ x = m + 25) w0 w' → (∀ c, c < 3 → bm_gi w' (m + 24) (b * 3 + c) = bm_gi w0 (m + 24) (a * 3 + c) ∧ bm_gi w' (m + 25) (b * 3 + c) = bm_gi w0 (m + 25) (a * 3 + c)) → (∀ j, (j < b * 3 ∨ b * 3 + 3 ≤ j) → bm_gi w' (m + 24) j = bm_gi w0 (m + 24) j ∧ bm_gi w' (m + 25) j = bm_gi w0 (m + 25) j) → Φ (.inl none) w') : ∀ (rem c : Nat) (w : bm_W), c + rem = 3 → q_fr (fun x => x = m + 24 ∨ x = m + 25) w0 w → (∀ x, x < c → bm_gi w (m + 24) (b * 3 + x) = bm_gi w0 (m + 24) (a * 3 + x) ∧ bm_gi w (m + 25) (b * 3 + x) = bm_gi w0 (m + 25) (a * 3 + x)) → (∀ j, (j < b * 3 ∨ b * 3 + 3 ≤ j) → bm_gi w (m + 24) j = bm_gi w0 (m + 24) j ∧ bm_gi w (m + 25) j = bm_gi w0 (m + 25) j) → bk_X12_copyRow_47 (d + 1) Φ m (a : Int) (b : Int) (c : Int) w
  | 0, c, w, hc, F, h1, h2 => by
    have : c = 3 := by omega
    subst this
    refine vb_X12_copyRow_47 ?_
    rw [if_pos (by decide)]
    exact hq w F h1 h2
  | rem + 1, c, w, hc, F, h1, h2 => by
    have S1 := S.fr F
    have c3 : c < 3 := by omega
    have o := h2 (a * 3 + c) (by omega)
    have e3 : ∀ x : Nat, x < 72 → bm_w (3 * (x : Int)) = ((x * 3 : Nat) : Int) := fun x hx => by rw [q_wI ⟨by omega, by omega⟩]; omega
    refine vb_X12_copyRow_47 ?_
    rw [if_neg (fun z => by have := of_decide_eq_true z; omega)]
    simp only [bm_c0_v, bm_c1_v, bm_c2_v, bm_c3_v, bm_c4_v, bm_c5_v, bm_u_some, decide_eq_true_eq, true_and, and_true, and_self, Bool.not_eq_true, Bool.not_eq_true', decide_eq_false_iff_not, if_true, if_false, ite_true, ite_false, eq_self, S1.1, S1.1, S1.g32, S1.t32, S1.n32, S1.g33, S1.t33, S1.n33, e3 a ha, e3 b hb, bm_wN (show a * 3 + c < 2147483648 by omega), bm_in, Int.toNat_natCast, mm_setx (d := d) (X := b * 3) (c := c) S1 (show b * 3 + c < 216 by omega), bm_w1 (show c < 2147483647 by omega), o.1, o.2]
    rw [if_neg (by decide)]
    clear e3
    refine ⟨by omega, by omega, cr_47 hab ha hb w0 S hq rem (c + 1) _ (by omega) ((F.si (Or.inl rfl)).si (Or.inr rfl)) (fun x hx => ?_) (fun j hj => ?_)⟩
    · by_cases y : x = c
      · subst y
        exact ⟨by rw [q_gi_ne (by omega), q_gi_eq], q_gi_eq⟩
      · rw [q_gi_ne (by omega), q_gi_nk (by omega), q_gi_nk (by omega), q_gi_ne (by omega)]
        exact h1 x (by omega)
    · rw [q_gi_ne (by omega), q_gi_nk (by omega), q_gi_nk (by omega), q_gi_ne (by omega)]
      exact h2 j hj
theorem mp_copyRow {i j : Nat} (S : sh_Md m w) (hk : k < 6) (hij : i ≠ j) (hi : i < 12) (hj : j < 12) (hq : ∀ w', q_fr (fun x => m + 24 ≤ x ∧ x ≤ m + 27) w w' → mRw m w (12 * k + i) w' (12 * k + j) → (∀ x, x ≠ 12 * k + j → mRw m w x w' x) → Φ (.inl none) w') : bm_Call bm_pg (d + 2) y_X12_copyRow [bm_r (some m), bm_i (k : Int), bm_i (i : Int), bm_i (j : Int)] w Φ := by
  have Sa : sh_Md m (bm_si w (m + 26) (12 * k + j) (bm_gi w (m + 26) (12 * k + i))) := S
  have Sb : sh_Md m (bm_sq (bm_si w (m + 26) (12 * k + j) (bm_gi w (m + 26) (12 * k + i))) (m + 27) (12 * k + j) (bm_gl (bm_si w (m + 26) (12 * k + j) (bm_gi w (m + 26) (12 * k + i))) (m + 27) (12 * k + i))) := S
  refine vc_X12_copyRow ?_
  simp only [bm_c0_v, bm_c1_v, bm_c2_v, bm_c3_v, bm_c4_v, bm_c5_v, bm_u_some, decide_eq_true_eq, true_and, and_true, and_self, Bool.not_eq_true, Bool.not_eq_true', decide_eq_false_iff_not, if_true, if_false, ite_true, ite_false, eq_self, S.1, S.1, S.g34, S.t34, S.n34, bm_w12 hk, bm_wN (show 12 * k + i < 2147483648 by omega), bm_wN (show 12 * k + j < 2147483648 by omega), bm_in, Int.toNat_natCast, Sa.1, Sa.1, Sa.g35, Sa.t35, Sa.n35]
  have F2 : q_fr (fun x => m + 24 ≤ x ∧ x ≤ m + 27) w (bm_sq (bm_si w (m + 26) (12 * k + j) (bm_gi w (m + 26) (12 * k + i))) (m + 27) (12 * k + j) (bm_gl (bm_si w (m + 26) (12 * k + j) (bm_gi w (m + 26) (12 * k + i))) (m + 27) (12 * k + i))) := (q_fr.rf.si (by omega)).sq (by omega)
  refine ⟨by omega, by omega, by omega, by omega, cr_47 (d := d) (a := 12 * k + i) (b := 12 * k + j) (by omega) (by omega) (by omega) _ Sb (fun w3 F3 h1 h2 => hq w3 (F2.tr (F3.mo (fun x hx => by omega))) ⟨?_, ?_, fun c hc => ?_⟩ (fun x hx => ⟨?_, ?_, fun c hc => ?_⟩)) 3 0 _ rfl q_fr.rf (fun x hx => by omega) (fun j _ => ⟨rfl, rfl⟩)⟩
  · rw [F3.gi (by omega)]
    exact q_gi_eq
  · rw [F3.gl (by omega), q_gl_eq]
    rfl
  · have := h1 c hc
    rw [this.1, this.2]
    exact ⟨q_gi_ne (by omega), q_gi_ne (by omega)⟩
  · rw [F3.gi (by omega)]
    exact q_gi_nk hx
  · rw [F3.gl (by omega), q_gl_nk hx]
    rfl
  · have := h2 (x * 3 + c) (by omega)
    rw [this.1, this.2]
    exact ⟨q_gi_ne (by omega), q_gi_ne (by omega)⟩
/-- other rows in a table, in the model -/
theorem mA_rows {cur : List y_rw} (h : mA m B (y_st pr k cur) w) (hk : k < pr.2.length) (S : sh_Md m w') (hs : m + 31 < bm_sz w') (e : ∀ a j, m + 7 ≤ a → a ≤ m + 22 → bm_gi w' a j = bm_gi w a j ∧ bm_gl w' a j = bm_gl w a j) (hm : ∀ j, j ≠ 0 → j ≠ 36 → bm_gi w' m j = bm_gi w m j) (e23 : ∀ j, bm_gi w' (m + 23) j = if j = k then (rows.length : Int) else bm_gi w (m + 23) j) (l12 : rows.length ≤ 12) (hc : y_ct rows ≤ 100) (hr : ∀ i, i < rows.length → mrw m k i (rows.getD i y_r0) w' ∧ y_rk (y_tF pr k).2.1.length (rows.getD i y_r0)) (ho : ∀ k' i, k' ≠ k → i < 12 → k' < 6 → mRw m w (12 * k' + i) w' (12 * k' + i)) : mA m B (y_st pr k rows) w' := by
  obtain ⟨t1, t2, t3, t4⟩ := h.2.2.2.1
  rw [y_st_len] at t1 t2
  refine ⟨S, hs, h.fs (fun a j u x => e a j u (by omega)) (hm 18 (by decide) (by decide)) (hm 11 (by decide) (by decide)), ⟨by rw [y_st_len]; exact (hm 28 (by decide) (by decide)).trans t1, by rw [y_st_len]; exact t2, fun k' hk' => ?_, ?_⟩, fun g hg => h.2.2.2.2.1 g hg, fun g hg => h.2.2.2.2.2 g hg⟩
  · have hk2 := hk'
    rw [y_st_len] at hk'
    obtain ⟨⟨x1, x2⟩, x3, x4, x5⟩ := t3 k' (by rw [y_st_len]; exact hk')
    have en : ∀ rr : List y_rw, ((y_st pr k rr).2.getD k' y_t0).1 = (pr.2.getD k' y_t0).1 := fun rr => by
      rw [y_st_at hk]
      by_cases c : k' = k
      · subst c; rw [if_pos rfl]
      · rw [if_neg c]
    rw [en] at x1 x2
    rw [y_st_f hk] at x3 x4 x5
    rw [y_st_r hk] at x5
    unfold mtb
    rw [en, y_st_f hk, y_st_r hk]
    refine ⟨⟨x1, (e _ _ (by omega) (by omega)).2.trans x2⟩, (e _ _ (by omega) (by omega)).1.trans x3, x4, ?_⟩
    by_cases c : k' = k
    · subst c
      rw [if_pos rfl]
      exact ⟨by rw [e23, if_pos rfl], l12, hc, hr⟩
    · rw [if_neg c] at x5 ⊢
      obtain ⟨z1, z2, z3, z4⟩ := x5
      refine ⟨by rw [e23, if_neg c]; exact z1, z2, z3, fun i hi => ⟨mRw.mrw (z4 i hi).1 ?_ (ho k' i c (by omega) (by omega)), (z4 i hi).2⟩⟩
      have T' := (h.tab (k := k') (by rw [y_st_len]; exact hk')).1
      have := T'.2.2.2.2.2.2.1
      rw [y_st_F hk] at this
      rw [(z4 i hi).2.1]
      exact this
  · show y_ds (t_V B) ((pr.2.set k ((pr.2.getD k y_t0).1, (pr.2.getD k y_t0).2.1, rows)).map (·.1))
    have t4' : y_ds (t_V B) ((pr.2.set k ((pr.2.getD k y_t0).1, (pr.2.getD k y_t0).2.1, cur)).map (·.1)) := t4
    rw [q_mapset (f := fun x : y_tb => x.1) (x := ((pr.2.getD k y_t0).1, (pr.2.getD k y_t0).2.1, cur)) (z := y_t0) pr.2 k hk rfl] at t4'
    rw [q_mapset (f := fun x : y_tb => x.1) (x := ((pr.2.getD k y_t0).1, (pr.2.getD k y_t0).2.1, rows)) (z := y_t0) pr.2 k hk rfl]
    exact t4'
end CR
