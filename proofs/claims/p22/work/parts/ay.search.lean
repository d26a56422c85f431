/-! ===== changes that a row finds, in the class ===== -/
/-- what a case of a row comes to -/
def s_hr (D : q_D) (R : y_rw) (idx ch : Int) : Int := s_ad R (D (s_val R.1 idx) ch).1
/-- whether one of the first cases of a row finds a change -/
def s_fr (D : q_D) (R : y_rw) (p : Nat) : Nat → Bool
  | 0 => false
  | n + 1 => s_fr D R p n || (decide (s_hr D R (n : Int) (-1) = 1) && decide (s_hr D R (n : Int) (p : Int) = 0))
def s_fw (D : q_D) (R : y_rw) (p : Nat) : Bool := s_fr D R p (y_cs R.1).toNat
/-- what a search may change -/
def q_s1 (t r : Nat) (w w' : bm_W) : Prop := q_fr (fun a => (t + 113 ≤ a ∧ a ≤ t + 116) ∨ a = r) w w' ∧ bm_gi w' (t + 113) 6 = bm_gi w (t + 113) 6 ∧ (∀ j, bm_gi w' (t + 115) j = bm_gi w (t + 115) j ∧ bm_gi w' (t + 116) j = bm_gi w (t + 116) j) ∧ (∀ j, j ≠ 4 → bm_gi w' r j = bm_gi w r j) ∧ ∀ j, j ≠ 3 → bm_gl w' r j = bm_gl w r j
section SE
variable {d t g r n : Nat} {B : Int → Int} {R : y_rw} {F : y_fn} {w w1 w2 : bm_W} {Φ : bm_Rt → bm_W → Prop}
theorem q_s1.rf : q_s1 t r w w := ⟨q_fr.rf, rfl, fun _ => ⟨rfl, rfl⟩, fun _ _ => rfl, fun _ _ => rfl⟩
theorem q_s1.tr (h : q_s1 t r w w1) (h2 : q_s1 t r w1 w2) : q_s1 t r w w2 := ⟨h.1.tr h2.1, h2.2.1.trans h.2.1, fun j => ⟨(h2.2.2.1 j).1.trans (h.2.2.1 j).1, (h2.2.2.1 j).2.trans (h.2.2.1 j).2⟩, fun j z => (h2.2.2.2.1 j z).trans (h.2.2.2.1 j z), fun j z => (h2.2.2.2.2 j z).trans (h.2.2.2.2 j z)⟩
theorem q_s1.mc {tr : List (Int × Bool)} (hr : t + 125 ≤ r) (h6 : bm_gi w (t + 113) 6 = 0) (hQ : mc_Q (t + 113) tr w w1) : q_s1 t r w w1 := by
  obtain ⟨q1, q2, q3, q4⟩ := hQ
  refine ⟨q1.mo (fun a z => Or.inl (by omega)), q2, fun j => ⟨?_, ?_⟩, fun j _ => q1.gi (by omega), fun j _ => q1.gl (by omega)⟩
  · have := q3 j
    rw [h6, q_bump_0] at this
    exact this
  · have := q4 j
    rw [h6, q_bump_0] at this
    exact this
theorem q_s1.i4 {v : Int} (hr : t + 125 ≤ r) (h : q_s1 t r w w1) : q_s1 t r w (bm_si w1 r 4 v) := ⟨h.1.si (Or.inr rfl), (q_gi_ne (by omega)).trans h.2.1, fun j => ⟨(q_gi_ne (by omega)).trans (h.2.2.1 j).1, (q_gi_ne (by omega)).trans (h.2.2.1 j).2⟩, fun j z => (q_gi_nk z).trans (h.2.2.2.1 j z), fun j z => h.2.2.2.2 j z⟩
theorem q_s1.l3 {v : Int} (h : q_s1 t r w w1) : q_s1 t r w (bm_sq w1 r 3 v) := ⟨h.1.sq (Or.inr rfl), h.2.1, h.2.2.1, h.2.2.2.1, fun j z => (q_gl_nk z).trans (h.2.2.2.2 j z)⟩
theorem cR.s1 (hr : t + 125 ≤ r) (h : cR r n R w) (hs : q_s1 t r w w1) : cR r n R w1 := by
  obtain ⟨a1, ⟨b1, b2, b3⟩, c⟩ := h
  refine ⟨a1.fr hs.1, ⟨fun x hx => ?_, (hs.2.2.2.1 1 (by decide)).trans b2, (hs.2.2.2.2 2 (by decide)).trans b3⟩, c⟩
  rw [hs.1.gi (by omega), hs.1.gi (by omega)]
  exact b1 x hx
theorem yfn.s1 (hr : t + 125 ≤ r) (h : yfn t B g F w) (hs : q_s1 t r w w1) : yfn t B g F w1 := h.bk (fun x _ a u v j => by
  have := pg_fn_off t (x : Int)
  exact ⟨hs.1.gi (by omega), hs.1.gl (by omega)⟩)
theorem s_hr_01 {D : q_D} {idx ch : Int} : s_hr D R idx ch = 0 ∨ s_hr D R idx ch = 1 := s_ad_01
/-- places of a case -/
theorem se_62 {P : Nat} (S : sh_Ru t w) (hF : yfn t B g F w) (hl : q_loc n F.2.2.2.2) (hn : F.2.1.length = n) (hR : cR r n R w) (hg : g < 6) (hr : t + 125 ≤ r) (h6 : bm_gi w (t + 113) 6 = 0) (hP : P ≤ 50) {idx : Nat} (hi : idx < 100000) {cs : Int} (hh : s_hr F.2.2.2.2 R (idx : Int) (-1) = 1) (hq : ∀ w', q_s1 t r w w' → bm_gi w' r 4 = 1 → bm_gl w' r 3 = ((u_v (fun q => s_fr F.2.2.2.2 R q (idx + 1)) P : Nat) : Int) → bk_X6_search_42 (d + 24) Φ (t + 117) (g : Int) r cs (P : Int) ((idx + 1 : Nat) : Int) w') : ∀ (rem p : Nat) (w1 : bm_W), p + rem = P → q_s1 t r w w1 → bm_gi w1 r 4 = 1 → bm_gl w1 r 3 = ((u_v (fun q => s_fr F.2.2.2.2 R q idx || (decide (q < p) && decide (s_hr F.2.2.2.2 R (idx : Int) (q : Int) = 0))) P : Nat) : Int) → bk_X6_search_62 (d + 24) Φ (t + 117) (g : Int) r cs (P : Int) (idx : Int) 1 (p : Int) w1
  | 0, p, w1, hp, Q, h4, h3 => by
    refine vb_X6_search_62 ?_
    rw [if_pos (decide_eq_true (by omega)), bm_w1 (show idx < 2147483647 by omega)]
    refine hq w1 Q h4 (h3.trans (congrArg _ (u_v_ext (fun q hq => ?_))))
    show _ = (s_fr F.2.2.2.2 R q idx || (decide (s_hr F.2.2.2.2 R (idx : Int) (-1) = 1) && decide (s_hr F.2.2.2.2 R (idx : Int) (q : Int) = 0)))
    rw [decide_eq_true hh, decide_eq_true (show q < p by omega)]
  | rem + 1, p, w1, hp, Q, h4, h3 => by
    have pP : p < P := by omega
    have S1 : sh_Ru t w1 := S.fr Q.1
    have R1 := hR.s1 hr Q
    have F1 := hF.s1 hr Q
    have b := q_bit (g := fun q => s_fr F.2.2.2.2 R q idx || (decide (q < p) && decide (s_hr F.2.2.2.2 R (idx : Int) (q : Int) = 0))) (n := P) (k := p) (by omega) (by omega)
    unfold q_ld q_ss at b
    rw [← h3, decide_eq_true pP, Bool.true_and, decide_eq_false (Nat.lt_irrefl p), Bool.false_and, Bool.or_false] at b
    have keep : ∀ (v : Bool), (s_fr F.2.2.2.2 R p idx = true ∨ (v = false ∧ decide (s_hr F.2.2.2.2 R (idx : Int) (p : Int) = 0) = v)) → ∀ w2, q_s1 t r w w2 → bm_gi w2 r 4 = 1 → bm_gl w2 r 3 = bm_gl w1 r 3 → bk_X6_search_62 (d + 24) Φ (t + 117) (g : Int) r cs (P : Int) (idx : Int) 1 ((p + 1 : Nat) : Int) w2 := fun v hv w2 Q2 e4 e3 => by
      refine se_62 S hF hl hn hR hg hr h6 hP hi hh hq rem (p + 1) w2 (by omega) Q2 e4 (e3.trans (h3.trans (congrArg _ (u_v_ext (fun q hq => ?_)))))
      by_cases z : q = p
      · subst z
        rw [decide_eq_false (Nat.lt_irrefl q), decide_eq_true (Nat.lt_succ_self q), Bool.false_and, Bool.or_false, Bool.true_and]
        rcases hv with hv | ⟨hv1, hv2⟩
        · rw [hv, Bool.true_or]
        · rw [hv2, hv1, Bool.or_false]
      · by_cases y : q < p
        · rw [decide_eq_true y, decide_eq_true (show q < p + 1 by omega)]
        · rw [decide_eq_false y, decide_eq_false (show ¬ q < p + 1 by omega)]
    refine vb_X6_search_62 ?_
    simp only [bm_c0_v, bm_c1_v, bm_c2_v, bm_c3_v, bm_c4_v, bm_c5_v, bm_u_some, decide_eq_true_eq, true_and, and_true, and_self, Bool.not_eq_true, Bool.not_eq_true', decide_eq_false_iff_not, if_true, if_false, ite_true, ite_false, eq_self, R1.1.1, b]
    rw [if_neg (by omega), if_neg (by decide)]
    cases hb : s_fr F.2.2.2.2 R p idx with
    | true =>
      rw [bm_bo_t, if_neg (by decide)]
      refine vb_X6_search_93 ?_
      rw [if_pos (by decide), bm_w1 (show p < 2147483647 by omega)]
      exact keep true (Or.inl hb) w1 Q h4 rfl
    | false =>
      rw [bm_bo_f, if_pos rfl]
      refine vb_X6_search_93 ?_
      rw [if_neg (by decide)]
      refine ⟨S1.1, sp_isHolding (d := d) (ch := (p : Int)) S1 F1 hl hn R1 hg (Or.inr (by omega)) (by omega) (by omega) (fun w2 Q2 => ?_)⟩
      rw [bm_c1_v, bm_w1 (show p < 2147483647 by omega)]
      have Qm := q_s1.mc hr (Q.2.1.trans h6) Q2
      have Q3 := Q.tr Qm
      have e4 : bm_gi w2 r 4 = 1 := (Q2.1.gi (by omega)).trans h4
      have e3 : bm_gl w2 r 3 = bm_gl w1 r 3 := Q2.1.gl (by omega)
      rcases s_hr_01 (D := F.2.2.2.2) (R := R) (idx := (idx : Int)) (ch := (p : Int)) with z | z
      · have z' : s_ad R (F.2.2.2.2 (s_val R.1 (idx : Int)) (p : Int)).1 = 0 := z
        rw [z', if_neg (by decide)]
        have R2 := R1.s1 hr Qm
        refine ⟨R2.1.1, R2.1.1, ?_⟩
        have eo := q_lo_v (g := fun q => s_fr F.2.2.2.2 R q idx || (decide (q < p) && decide (s_hr F.2.2.2.2 R (idx : Int) (q : Int) = 0))) (g' := fun i => decide (i = p)) (n := P) (by omega)
        rw [← u_v_one pP, ← h3, ← e3] at eo
        have es := q_sl_k p (by omega)
        unfold q_sl at es
        rw [es]
        refine se_62 S hF hl hn hR hg hr h6 hP hi hh hq rem (p + 1) _ (by omega) Q3.l3 e4 ?_
        rw [q_gl_eq]
        refine Eq.trans eo (congrArg _ (u_v_ext (fun q hq => ?_)))
        by_cases y : q = p
        · subst y
          rw [decide_eq_true rfl, decide_eq_true (Nat.lt_succ_self q), decide_eq_true z, Bool.or_true, Bool.true_and, Bool.or_true]
        · rw [decide_eq_false y, Bool.or_false]
          by_cases y2 : q < p
          · rw [decide_eq_true y2, decide_eq_true (show q < p + 1 by omega)]
          · rw [decide_eq_false y2, decide_eq_false (show ¬ q < p + 1 by omega)]
      · have z' : s_ad R (F.2.2.2.2 (s_val R.1 (idx : Int)) (p : Int)).1 = 1 := z
        rw [z', if_pos (by decide)]
        exact keep false (Or.inr ⟨rfl, by rw [decide_eq_false (by omega)]⟩) w2 Q3 e4 e3
theorem se_42 {P N : Nat} (S : sh_Ru t w) (hF : yfn t B g F w) (hl : q_loc n F.2.2.2.2) (hn : F.2.1.length = n) (hR : cR r n R w) (hg : g < 6) (hr : t + 125 ≤ r) (h6 : bm_gi w (t + 113) 6 = 0) (hP : P ≤ 50) (hN : N < 100000) (hq : ∀ w', q_s1 t r w w' → bm_gi w' r 4 = 1 → bm_gl w' r 3 = ((u_v (fun q => s_fr F.2.2.2.2 R q N) P : Nat) : Int) → Φ (.inl none) w') : ∀ (rem idx : Nat) (w1 : bm_W), idx + rem = N → q_s1 t r w w1 → bm_gi w1 r 4 = 1 → bm_gl w1 r 3 = ((u_v (fun q => s_fr F.2.2.2.2 R q idx) P : Nat) : Int) → bk_X6_search_42 (d + 24) Φ (t + 117) (g : Int) r (N : Int) (P : Int) (idx : Int) w1
  | 0, idx, w1, hi, Q, h4, h3 => by
    refine vb_X6_search_42 ?_
    rw [if_pos (decide_eq_true (by omega))]
    have : idx = N := by omega
    subst this
    exact hq w1 Q h4 h3
  | rem + 1, idx, w1, hi, Q, h4, h3 => by
    have S1 : sh_Ru t w1 := S.fr Q.1
    have R1 := hR.s1 hr Q
    have F1 := hF.s1 hr Q
    refine vb_X6_search_42 ?_
    rw [if_neg (fun y => by have := of_decide_eq_true y; omega)]
    refine ⟨S1.1, sp_isHolding (d := d) (ch := -1) S1 F1 hl hn R1 hg (Or.inr (by omega)) (by omega) (by omega) (fun w2 Q2 => ?_)⟩
    rw [bm_c1_v]
    have Q3 := Q.tr (q_s1.mc hr (Q.2.1.trans h6) Q2)
    have e4 : bm_gi w2 r 4 = 1 := (Q2.1.gi (by omega)).trans h4
    have e3 : bm_gl w2 r 3 = bm_gl w1 r 3 := Q2.1.gl (by omega)
    rcases s_hr_01 (D := F.2.2.2.2) (R := R) (idx := (idx : Int)) (ch := -1) with z | z
    · have z' : s_ad R (F.2.2.2.2 (s_val R.1 (idx : Int)) (-1)).1 = 0 := z
      rw [z']
      have go : bk_X6_search_42 (d + 24) Φ (t + 117) (g : Int) r (N : Int) (P : Int) ((idx + 1 : Nat) : Int) w2 := by
        refine se_42 S hF hl hn hR hg hr h6 hP hN hq rem (idx + 1) w2 (by omega) Q3 e4 (e3.trans (h3.trans (congrArg _ (u_v_ext (fun q hq => ?_)))))
        show _ = (s_fr F.2.2.2.2 R q idx || (decide (s_hr F.2.2.2.2 R (idx : Int) (-1) = 1) && _))
        rw [decide_eq_false (by omega), Bool.false_and, Bool.or_false]
      refine vb_X6_search_62 ?_
      rw [bm_w1 (show idx < 2147483647 by omega)]
      split
      · exact go
      · rw [if_pos (by decide)]
        exact go
    · have z' : s_ad R (F.2.2.2.2 (s_val R.1 (idx : Int)) (-1)).1 = 1 := z
      rw [z']
      refine se_62 (d := d) S hF hl hn hR hg hr h6 hP (by omega) z (fun w3 Q3 e4 e3 => se_42 S hF hl hn hR hg hr h6 hP hN hq rem (idx + 1) w3 (by omega) Q3 e4 e3) P 0 w2 (by omega) Q3 e4 (e3.trans (h3.trans (congrArg _ (u_v_ext (fun q hq => ?_)))))
      rw [decide_eq_false (Nat.not_lt_zero q), Bool.false_and, Bool.or_false]
theorem sp_search (S : sh_Ru t w) (hF : yfn t B g F w) (hl : q_loc n F.2.2.2.2) (hn : F.2.1.length = n) (hR : cR r n R w) (hg : g < 6) (hr : t + 125 ≤ r) (h6 : bm_gi w (t + 113) 6 = 0) (hs : bm_gi w r 4 = 0 ∨ (bm_gi w r 4 = 1 ∧ bm_gl w r 3 = ((u_v (s_fw F.2.2.2.2 R) F.2.2.1 : Nat) : Int))) (hq : ∀ w', q_s1 t r w w' → bm_gi w' r 4 = 1 → bm_gl w' r 3 = ((u_v (s_fw F.2.2.2.2 R) F.2.2.1 : Nat) : Int) → Φ (.inl none) w') : bm_Call bm_pg (d + 25) y_X6_search [bm_r (some (t + 117)), bm_i (g : Int), bm_r (some r)] w Φ := by
  have gl := hR.rgl
  have cs := gl.rc.2
  have SF := S.2.2.2.1.fn (g : Int)
  refine vc_X6_search ?_
  rcases hs with h4 | ⟨h4, h3⟩
  · rw [h4, if_pos (by decide)]
    have Q2 : q_s1 t r w (bm_sq (bm_si w r 4 1) r 3 0) := (q_s1.rf.i4 hr).l3
    have S2 : sh_Ru t (bm_sq (bm_si w r 4 1) r 3 0) := S.fr Q2.1
    have R2 := hR.s1 hr Q2
    have F2 := hF.s1 hr Q2
    have gl2 := R2.rgl
    have v4 : bm_gi (bm_sq (bm_si w r 4 1) r 3 0) r 4 = 1 := q_gi_eq
    have v3 : bm_gl (bm_sq (bm_si w r 4 1) r 3 0) r 3 = 0 := q_gl_eq
    have kt5 : bm_kt (bm_si w r 4 1) r = 5 := hR.1.1
    rw [kt5]
    generalize bm_sq (bm_si w r 4 1) r 3 0 = w2 at Q2 S2 R2 F2 gl2 v4 v3 ⊢
    have SF2 := S2.2.2.2.1.fn (g : Int)
    simp only [bm_c0_v, bm_c1_v, bm_c2_v, bm_c3_v, bm_c4_v, bm_c5_v, bm_u_some, decide_eq_true_eq, true_and, and_true, and_self, Bool.not_eq_true, Bool.not_eq_true', decide_eq_false_iff_not, if_true, if_false, ite_true, ite_false, eq_self, hR.1.1, R2.1.1, R2.1.2.1, R2.1.2.2.1, sp_rc (d := d + 21) gl2, S2.1, S2.2.1, S2.2.2.2.1.1, sp_funAt (d := d + 23) S2.2.2.2.1, SF2.1, F2.2.2.2.1]
    refine ⟨Or.inr trivial, ?_⟩
    have p50 := hF.2.2.2.2.2.2.2.1
    have se := se_42 (d := d) (Φ := Φ) (P := F.2.2.1) (N := (y_cs R.1).toNat) S2 F2 hl hn R2 hg hr (Q2.2.1.trans h6) p50 (by omega) (fun w3 Q3 e4 e3 => hq w3 (Q2.tr Q3) e4 e3) (y_cs R.1).toNat 0 w2 (by omega) q_s1.rf v4 (by rw [v3, u_v_0 (g := fun q => s_fr F.2.2.2.2 R q 0) |>.mpr (fun i _ => rfl)]; rfl)
    rw [Int.toNat_of_nonneg (by omega)] at se
    exact se
  · rw [h4, if_neg (by decide)]
    exact ⟨hR.1.1, hq w q_s1.rf h4 h3⟩
end SE
