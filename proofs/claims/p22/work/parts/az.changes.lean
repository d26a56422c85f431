/-! ===== changes that rows of a table find, in the class ===== -/
/-- what is kept of searches -/
def zS (t : Nat) (pr : y_pr) (w : bm_W) : Prop := ∀ k i r, k < pr.2.length → i < (pr.2.getD k y_t0).2.2.length → bm_gr w (pg_tb (t + 4) (k : Int) + 1) i = some r → bm_gi w r 4 = 0 ∨ (bm_gi w r 4 = 1 ∧ bm_gl w r 3 = ((u_v (s_fw (y_tF pr k).2.2.2.2 ((pr.2.getD k y_t0).2.2.getD i y_r0)) (y_tF pr k).2.2.1 : Nat) : Int))
/-- what the rows of a table but one find -/
def s_ft (D : q_D) (rows : List y_rw) (x : Option Nat) (p : Nat) : Nat → Bool
  | 0 => false
  | i + 1 => s_ft D rows x p i || (decide (x ≠ some i) && s_fw D (rows.getD i y_r0) p)
/-- what searching may change -/
def cS (t : Nat) (w w' : bm_W) : Prop := q_fr (fun a => (t + 113 ≤ a ∧ a ≤ t + 116) ∨ t + 125 ≤ a) w w'
/-- the class, but for what refreshing has told: Q tells of that -/
def cQ (Q : bm_W → Prop) (b t : Nat) (B : Int → Int) (pr : y_pr) (w : bm_W) : Prop := cI b t w ∧ zA t B pr w ∧ yfs t B pr.1 w ∧ Q w ∧ bm_gi w (t + 113) 6 = 0
def c4 (t : Nat) (pr : y_pr) (w : bm_W) : Prop := bm_gi w (t + 117) 2 = 0 ∨ (bm_gi w (t + 117) 2 = 1 ∧ zN t pr pr.2.length w)
def qS (t : Nat) (Q : bm_W → Prop) : Prop := ∀ r w w', t + 125 ≤ r → Q w → q_s1 t r w w' → Q w'
theorem qS_c4 {t : Nat} {pr : y_pr} (l6 : pr.2.length ≤ 6) : qS t (c4 t pr) := fun r w w' hr h hs => by
  obtain ⟨q1, q2, q3, q4, q5⟩ := hs
  rcases h with c | ⟨c1, c2, c3⟩
  · exact Or.inl ((q1.gi (by omega)).trans c)
  · refine Or.inr ⟨(q1.gi (by omega)).trans c1, fun k hk j hj => ?_, fun j hj => ?_⟩
    · have tk := pg_tb_in (t + 4) k (by omega)
      rw [q1.gi (by omega)]
      exact c2 k hk j hj
    · rw [(q3 j).1, (q3 j).2]
      exact c3 j hj
section CH
variable {Q : bm_W → Prop} {d b t k : Nat} {B : Int → Int} {pr : y_pr} {w w' : bm_W} {Φ : bm_Rt → bm_W → Prop}
theorem zC.row2 {T g n i : Nat} {F : y_fn} {rows : List y_rw} (h : zC t T g n B F rows w) (hi : i < rows.length) : ∃ r, bm_gr w (T + 1) i = some r ∧ tb_row w T (i : Int) = r ∧ cR r n (rows.getD i y_r0) w ∧ t + 125 ≤ r := by
  obtain ⟨h1, h2, h3, h4, ⟨b1, b2, b3, b4, b5⟩, h6, h7, h8⟩ := h
  obtain ⟨r, r1, r2, r3⟩ := b5 i hi
  refine ⟨r, r1, ?_, ⟨h2.2.2.2.2.2.2.2.2.2 i r (by omega) r1, r2, r3, h7.2.2.2⟩, h6 i r (by omega) r1⟩
  unfold tb_row
  rw [if_pos ⟨by omega, by omega⟩, Int.toNat_natCast, r1]
  rfl
theorem cQ.s1 {r : Nat} (hQ : qS t Q) (hr : t + 125 ≤ r) (h : cQ Q b t B pr w) (hs : q_s1 t r w w') : cQ Q b t B pr w' := by
  have hq := hQ r w w' hr h.2.2.2.1 hs
  have eb := h.1.1.1
  obtain ⟨q1, q2, q3, q4, q5⟩ := hs
  have e : ∀ a j, ¬ ((t + 113 ≤ a ∧ a ≤ t + 116) ∨ a = r) → bm_gi w' a j = bm_gi w a j ∧ bm_gl w' a j = bm_gl w a j := fun a j z => ⟨q1.gi z, q1.gl z⟩
  have ei : ∀ a j, t + 125 ≤ a → j ≠ 4 → bm_gi w' a j = bm_gi w a j := fun a j ha hj => by
    by_cases z : a = r
    · rw [z]; exact q4 j hj
    · exact q1.gi (by omega)
  have el : ∀ a j, t + 125 ≤ a → j ≠ 3 → bm_gl w' a j = bm_gl w a j := fun a j ha hj => by
    by_cases z : a = r
    · rw [z]; exact q5 j hj
    · exact q1.gl (by omega)
  refine ⟨h.1.frA q1 (by omega) (by omega) (fun i => by have := pg_fn_off t i; omega), ⟨h.2.1.1.fr q1, (e _ _ (by omega)).1.trans h.2.1.2.1, h.2.1.2.2.1, fun k hk => ?_⟩, h.2.2.1.bk (e _ _ (by omega)).1 (fun x _ a u v j => by have := pg_fn_off t (x : Int); exact e a j (by omega)), hq, q2.trans h.2.2.2.2⟩
  · have off := (h.2.1.2.2.2 k hk).off
    obtain ⟨z1, z2, z3, z4, ⟨b1, b2, b3, b4, b5⟩, z6, z7, z8⟩ := h.2.1.2.2.2 k hk
    refine ⟨z1.fr q1, z2.fr q1, (e _ _ (by omega)).1.trans z3, z4.bk (fun x _ a u v j => by have := pg_fn_off t (x : Int); exact e a j (by omega)), ⟨(e _ _ (by omega)).1.trans b1, b2, (e _ _ (by omega)).1.trans b3, b4, fun i hi => ?_⟩, fun i r hi hr => z6 i r hi (by rw [← q1.gr]; exact hr), z7, z8⟩
    obtain ⟨r', r1, ⟨y1, y2, y3⟩, r3⟩ := b5 i hi
    have ro := z6 i r' (by omega) r1
    refine ⟨r', by rw [q1.gr]; exact r1, ⟨fun c hc => ?_, (ei _ _ ro (by decide)).trans y2, (el _ _ ro (by decide)).trans y3⟩, r3⟩
    rw [ei _ _ (by omega) (by omega), ei _ _ (by omega) (by omega)]
    exact y1 c hc
/-- rows stand apart -/
theorem cQ.apart (h : cQ Q b t B pr w) {k k' i i' r : Nat} (hk : k < pr.2.length) (hk' : k' < pr.2.length) (hi : i < (pr.2.getD k y_t0).2.2.length) (hi' : i' < (pr.2.getD k' y_t0).2.2.length) (h1 : bm_gr w (pg_tb (t + 4) (k : Int) + 1) i = some r) (h2 : bm_gr w (pg_tb (t + 4) (k' : Int) + 1) i' = some r) : k = k' ∧ i = i' := by
  have l6 := h.2.1.2.2.1
  have r12 := (h.2.1.2.2.2 k hk).2.2.2.2.1.2.1
  have r12' := (h.2.1.2.2.2 k' hk').2.2.2.2.1.2.1
  have t1 := h.2.1.tb (k := k) (by omega)
  have t2 := h.2.1.tb (k := k') (by omega)
  rcases h.1.2.2.2.2.2.1.2.2 _ i r _ i' r ⟨⟨(k : Int), rfl⟩, by omega, h1⟩ ⟨⟨(k' : Int), rfl⟩, by omega, h2⟩ with z | z | z
  · exact ⟨by omega, z.2⟩
  · omega
  · omega
theorem zS.s1 (h : cQ Q b t B pr w) (hS : zS t pr w) {k0 i0 r0 : Nat} (hk : k0 < pr.2.length) (hi : i0 < (pr.2.getD k0 y_t0).2.2.length) (hr : bm_gr w (pg_tb (t + 4) (k0 : Int) + 1) i0 = some r0) (hs : q_s1 t r0 w w') (h4 : bm_gi w' r0 4 = 1) (h3 : bm_gl w' r0 3 = ((u_v (s_fw (y_tF pr k0).2.2.2.2 ((pr.2.getD k0 y_t0).2.2.getD i0 y_r0)) (y_tF pr k0).2.2.1 : Nat) : Int)) : zS t pr w' := fun k i r hk' hi' hr' => by
  rw [hs.1.gr] at hr'
  by_cases z : r = r0
  · subst z
    obtain ⟨e1, e2⟩ := h.apart hk hk' hi hi' hr hr'
    subst e1
    subst e2
    exact Or.inr ⟨h4, h3⟩
  · have r12 := (h.2.1.2.2.2 k hk').2.2.2.2.1.2.1
    have ro := (h.2.1.2.2.2 k hk').2.2.2.2.2.1 i r (by omega) hr'
    rw [hs.1.gi (by omega), hs.1.gl (by omega)]
    exact hS k i r hk' hi' hr'
theorem cf_5 (hQ : qS t Q) (hk : k < pr.2.length) {x lo : Option Nat} (hx : ∀ i r, i < (pr.2.getD k y_t0).2.2.length → bm_gr w (pg_tb (t + 4) (k : Int) + 1) i = some r → (some r = lo ↔ x = some i)) (hq : ∀ w', cQ Q b t B pr w' → zS t pr w' → cS t w w' → Φ (.inl (some (bm_l ((u_v (fun p => s_ft (y_tF pr k).2.2.2.2 (pr.2.getD k y_t0).2.2 x p (pr.2.getD k y_t0).2.2.length) (y_tF pr k).2.2.1 : Nat) : Int)))) w') : ∀ (rem i : Nat) (w1 : bm_W), i + rem = (pr.2.getD k y_t0).2.2.length → cQ Q b t B pr w1 → zS t pr w1 → cS t w w1 → bk_X6_changesFound_5 (d + 25) Φ (t + 117) (pg_tb (t + 4) (k : Int)) lo ((u_v (fun p => s_ft (y_tF pr k).2.2.2.2 (pr.2.getD k y_t0).2.2 x p i) (y_tF pr k).2.2.1 : Nat) : Int) (i : Int) w1
  | 0, i, w1, hi, h, hS, hF => by
    have Z := h.2.1.2.2.2 k hk
    have c5 := Z.2.2.2.2.1.1
    refine vb_X6_changesFound_5 ?_
    simp only [bm_c0_v, bm_c1_v, bm_c2_v, bm_c3_v, bm_c4_v, bm_c5_v, bm_u_some, decide_eq_true_eq, true_and, and_true, and_self, Bool.not_eq_true, Bool.not_eq_true', decide_eq_false_iff_not, if_true, if_false, ite_true, ite_false, eq_self, Z.2.1.1, c5]
    rw [if_pos (by omega)]
    have : i = (pr.2.getD k y_t0).2.2.length := by omega
    subst this
    exact hq w1 h hS hF
  | rem + 1, i, w1, hi, h, hS, hF => by
    have Z := h.2.1.2.2.2 k hk
    have c5 := Z.2.2.2.2.1.1
    have il : i < (pr.2.getD k y_t0).2.2.length := by omega
    obtain ⟨r, g1, e1, e2, e3⟩ := Z.row2 il
    have r12 := Z.2.2.2.2.1.2.1
    have hF' : q_fr (fun a => (t + 113 ≤ a ∧ a ≤ t + 116) ∨ t + 125 ≤ a) w w1 := hF
    have hx2 := hx i r il (by rw [← hF'.gr]; exact g1)
    have S := h.2.1.1
    have p50 := Z.2.2.2.1.2.2.2.2.2.2.2.1
    have en : s_ft (y_tF pr k).2.2.2.2 (pr.2.getD k y_t0).2.2 x = fun p n => s_ft (y_tF pr k).2.2.2.2 (pr.2.getD k y_t0).2.2 x p n := rfl
    refine vb_X6_changesFound_5 ?_
    simp only [bm_c0_v, bm_c1_v, bm_c2_v, bm_c3_v, bm_c4_v, bm_c5_v, bm_u_some, decide_eq_true_eq, true_and, and_true, and_self, Bool.not_eq_true, Bool.not_eq_true', decide_eq_false_iff_not, if_true, if_false, ite_true, ite_false, eq_self, Z.2.1.1, c5, sp_rowAt (d := d + 24) Z.2.1, e1, S.1, Z.2.2.1, bm_w1 (show i < 2147483647 by omega)]
    rw [if_neg (by omega)]
    by_cases c : some r = lo
    · rw [if_pos c]
      have cf := cf_5 hQ hk hx hq rem (i + 1) w1 (by omega) h hS hF
      have ex : u_v (fun p => s_ft (y_tF pr k).2.2.2.2 (pr.2.getD k y_t0).2.2 x p (i + 1)) (y_tF pr k).2.2.1 = u_v (fun p => s_ft (y_tF pr k).2.2.2.2 (pr.2.getD k y_t0).2.2 x p i) (y_tF pr k).2.2.1 := u_v_ext (fun p _ => by
        show (s_ft _ _ x p i || (decide (x ≠ some i) && _)) = _
        rw [decide_eq_false (fun z => z (hx2.mp c)), Bool.false_and, Bool.or_false])
      rw [ex] at cf
      exact cf
    · rw [if_neg c]
      refine sp_search (d := d) S Z.2.2.2.1 Z.2.2.2.2.2.2.1.1 rfl e2 Z.2.2.2.2.2.2.1.2.2.1 e3 h.2.2.2.2 (hS k i r hk il g1) (fun w2 Q2 h4 h3 => ?_)
      rw [bm_c0_v]
      have R2 := e2.s1 e3 Q2
      refine ⟨R2.1.1, ?_⟩
      have eo := q_lo_v (g := fun p => s_ft (y_tF pr k).2.2.2.2 (pr.2.getD k y_t0).2.2 x p i) (g' := s_fw (y_tF pr k).2.2.2.2 ((pr.2.getD k y_t0).2.2.getD i y_r0)) (n := (y_tF pr k).2.2.1) (by omega)
      rw [← h3] at eo
      have cf := cf_5 hQ hk hx hq rem (i + 1) w2 (by omega) (h.s1 hQ e3 Q2) (hS.s1 h hk il g1 Q2 h4 h3) (hF'.tr (Q2.1.mo (fun a z => by omega)))
      have ex : u_v (fun p => s_ft (y_tF pr k).2.2.2.2 (pr.2.getD k y_t0).2.2 x p (i + 1)) (y_tF pr k).2.2.1 = u_v (fun p => s_ft (y_tF pr k).2.2.2.2 (pr.2.getD k y_t0).2.2 x p i || s_fw (y_tF pr k).2.2.2.2 ((pr.2.getD k y_t0).2.2.getD i y_r0) p) (y_tF pr k).2.2.1 := u_v_ext (fun p _ => by
        show (s_ft _ _ x p i || (decide (x ≠ some i) && _)) = _
        have ne : x ≠ some i := fun z => c (hx2.mpr z)
        rw [decide_eq_true ne, Bool.true_and])
      rw [ex, ← eo] at cf
      exact cf
theorem cQ.changes (hQ : qS t Q) (h : cQ Q b t B pr w) (hS : zS t pr w) (hk : k < pr.2.length) {x lo : Option Nat} (hx : ∀ i r, i < (pr.2.getD k y_t0).2.2.length → bm_gr w (pg_tb (t + 4) (k : Int) + 1) i = some r → (some r = lo ↔ x = some i)) (hq : ∀ w', cQ Q b t B pr w' → zS t pr w' → cS t w w' → Φ (.inl (some (bm_l ((u_v (fun p => s_ft (y_tF pr k).2.2.2.2 (pr.2.getD k y_t0).2.2 x p (pr.2.getD k y_t0).2.2.length) (y_tF pr k).2.2.1 : Nat) : Int)))) w') : bm_Call bm_pg (d + 26) y_X6_changesFound [bm_r (some (t + 117)), bm_r (some (pg_tb (t + 4) (k : Int))), bm_r lo] w Φ := by
  have c := cf_5 (d := d) hQ hk hx hq (pr.2.getD k y_t0).2.2.length 0 w (by omega) h hS q_fr.rf
  rw [u_v_0 (g := fun p => s_ft (y_tF pr k).2.2.2.2 (pr.2.getD k y_t0).2.2 x p 0) |>.mpr (fun i _ => rfl)] at c
  exact vc_X6_changesFound c
theorem cZ.changes (h : cZ b t B pr w) (hS : zS t pr w) (hk : k < pr.2.length) {x lo : Option Nat} (hx : ∀ i r, i < (pr.2.getD k y_t0).2.2.length → bm_gr w (pg_tb (t + 4) (k : Int) + 1) i = some r → (some r = lo ↔ x = some i)) (hq : ∀ w', cZ b t B pr w' → zS t pr w' → cS t w w' → Φ (.inl (some (bm_l ((u_v (fun p => s_ft (y_tF pr k).2.2.2.2 (pr.2.getD k y_t0).2.2 x p (pr.2.getD k y_t0).2.2.length) (y_tF pr k).2.2.1 : Nat) : Int)))) w') : bm_Call bm_pg (d + 26) y_X6_changesFound [bm_r (some (t + 117)), bm_r (some (pg_tb (t + 4) (k : Int))), bm_r lo] w Φ :=
  cQ.changes (Q := c4 t pr) (qS_c4 h.2.1.2.2.1) h hS hk hx hq
end CH
