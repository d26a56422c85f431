/-! ===== the digest, in the class ===== -/
def yd_s (v x : Int) : Int := bm_x (bm_x (v * 31) + x)
def yd_i (st : Nat → Int → Int) : Nat → Int → Int
  | 0, v => v
  | n + 1, v => st n (yd_i st n v)
def yd_f (g : Nat → Int) (n : Nat) (v : Int) : Int := yd_i (fun i v => yd_s v (g i)) n v
def yd_1 (pr : y_pr) (nI : Nat) (len : Int) : Int := yd_f (fun w => y_cnt pr nI len (w : Int)) 5 373
def yd_2 (pr : y_pr) (v : Int) : Int := yd_i (fun f v => yd_f (fun w => y_ft pr f (w : Int)) 6 v) pr.1.length v
def yd_c (pr : y_pr) (k : Nat) (c : Nat) (v : Int) : Int := yd_f (fun i => s_in (pr.2.getD k y_t0).2.2 (c : Int) i) (y_tF pr k).2.1.length v
def yd_t (pr : y_pr) (k : Nat) (v : Int) : Int := yd_i (yd_c pr k) (y_ct (pr.2.getD k y_t0).2.2).toNat (yd_f (fun w => y_told pr k (w : Int)) 5 v)
def yd_3 (pr : y_pr) (v : Int) : Int := yd_i (yd_t pr) pr.2.length v
def yd_b (pr : y_pr) (j : Nat) (v : Int) : Int := yd_s (yd_s v (q_bump 1 true (s_trs pr pr.2.length) (fun _ => 0) j)) (q_bump 1 false (s_trs pr pr.2.length) (fun _ => 0) j)
def yd_g (pr : y_pr) (nI : Nat) (len : Int) : Int := yd_i (yd_b pr) nI (yd_3 pr (yd_2 pr (yd_1 pr nI len)))
section DG
variable {d b t k nI : Nat} {B : Int → Int} {pr : y_pr} {w w' : bm_W} {Φ : bm_Rt → bm_W → Prop}
theorem zN.un {n : Nat} (hN : zN t pr n w) (hn : n ≤ 6) (hf : q_fr (fun x => t + 118 ≤ x ∧ x ≤ t + 121) w w') : zN t pr n w' := by
  refine ⟨fun k hk j hj => ?_, fun j hj => ?_⟩
  · have tk := pg_tb_in (t + 4) k (by omega)
    rw [hf.gi (by omega)]
    exact hN.1 k hk j hj
  · rw [hf.gi (by omega), hf.gi (by omega)]
    exact hN.2 j hj
/-- a table's part -/
theorem ad_65 {T : Nat} (h : cZ b t B pr w) (hk : k < pr.2.length) (hT : T = pg_tb (t + 4) (k : Int)) {c : Nat} (hc : (c : Int) < y_ct (pr.2.getD k y_t0).2.2) (v0 : Int) (hq : bk_X11_addTable_53 (d + 25) Φ T (yd_c pr k c v0) ((y_tF pr k).2.1.length : Int) ((c + 1 : Nat) : Int) w) : ∀ (rem i : Nat), i + rem = (y_tF pr k).2.1.length → bk_X11_addTable_65 (d + 25) Φ T (yd_f (fun i => s_in (pr.2.getD k y_t0).2.2 (c : Int) i) i v0) ((y_tF pr k).2.1.length : Int) (c : Int) (i : Int) w
  | 0, i, hi => by
    have ct := (h.ct k hk).2
    refine vb_X11_addTable_65 ?_
    rw [if_pos (decide_eq_true (by omega)), bm_w1 (show c < 2147483647 by omega)]
    have : i = (y_tF pr k).2.1.length := by omega
    rw [this]
    exact hq
  | rem + 1, i, hi => by
    have Z := h.2.1.2.2.2 k hk
    have n3 := Z.2.2.2.2.2.2.1.2.2.2
    have ct := (h.ct k hk).2
    have ih := ad_65 h hk hT hc v0 hq rem (i + 1) (by omega)
    refine vb_X11_addTable_65 ?_
    rw [if_neg (fun z => by have := of_decide_eq_true z; omega), bm_w1 (show i < 2147483647 by omega)]
    subst hT
    refine ⟨Z.2.1.1, vc_X7_valueAt (tv_5 (d := d + 20) (k := (c : Int)) Z (show i < 3 by omega) ?_ (pr.2.getD k y_t0).2.2 (c : Int) 0 rfl (by omega) hc (by omega) (by omega) rfl)⟩
    rw [bm_c1_v]
    exact ih
theorem ad_53 {T : Nat} (h : cZ b t B pr w) (hk : k < pr.2.length) (hT : T = pg_tb (t + 4) (k : Int)) (v0 : Int) (hq : Φ (.inl (some (bm_l (yd_i (yd_c pr k) (y_ct (pr.2.getD k y_t0).2.2).toNat v0)))) w) : ∀ (rem c : Nat), (c : Int) + rem = y_ct (pr.2.getD k y_t0).2.2 → bk_X11_addTable_53 (d + 25) Φ T (yd_i (yd_c pr k) c v0) ((y_tF pr k).2.1.length : Int) (c : Int) w
  | 0, c, hc => by
    have Z := h.2.1.2.2.2 k hk
    refine vb_X11_addTable_53 ?_
    subst hT
    rw [Z.2.2.2.2.1.2.2.1, if_pos (decide_eq_true (by omega))]
    have : (y_ct (pr.2.getD k y_t0).2.2).toNat = c := by omega
    rw [this] at hq
    exact ⟨Z.2.1.1, hq⟩
  | rem + 1, c, hc => by
    have Z := h.2.1.2.2.2 k hk
    have ih := ad_53 (T := T) h hk hT v0 hq rem (c + 1) (by omega)
    refine vb_X11_addTable_53 ?_
    have hT' := hT
    subst hT'
    rw [Z.2.2.2.2.1.2.2.1, if_neg (fun z => by have := of_decide_eq_true z; omega)]
    exact ⟨Z.2.1.1, ad_65 (d := d) h hk rfl (by omega) (yd_i (yd_c pr k) c v0) ih (y_tF pr k).2.1.length 0 (by omega)⟩
theorem ad_6 (h : cZ b t B pr w) (hN : zN t pr pr.2.length w) (hk : k < pr.2.length) (v0 : Int) (hq : Φ (.inl (some (bm_l (yd_t pr k v0)))) w) : ∀ (rem i : Nat), i + rem = 5 → bk_X11_addTable_6 (d + 25) Φ b (pg_tb (t + 4) (k : Int)) (yd_f (fun w => y_told pr k (w : Int)) i v0) (i : Int) w
  | 0, i, hi => by
    have c1 := h.1.1
    have S := h.2.1.1
    have Z := h.2.1.2.2.2 k hk
    have ct := h.ct k hk
    have : i = 5 := by omega
    subst this
    refine vb_X11_addTable_6 ?_
    rw [if_pos (by decide)]
    simp only [bm_c0_v, bm_c1_v, bm_c2_v, bm_c3_v, bm_c4_v, bm_c5_v, bm_u_some, decide_eq_true_eq, true_and, and_true, and_self, Bool.not_eq_true, Bool.not_eq_true', decide_eq_false_iff_not, if_true, if_false, ite_true, ite_false, eq_self, c1.2.1, c1.2.2.2.2.1, Z.2.1.1, S.2.2.2.1.1, Z.2.2.1, sp_funAt (d := d + 24) S.2.2.2.1, (S.2.2.2.1.fn _).1, Z.2.2.2.1.2.1.1]
    exact ad_53 (d := d) h hk rfl _ hq (y_ct (pr.2.getD k y_t0).2.2).toNat 0 (by omega)
  | rem + 1, i, hi => by
    have Z := h.2.1.2.2.2 k hk
    have ih := ad_6 h hN hk v0 hq rem (i + 1) (by omega)
    refine vb_X11_addTable_6 ?_
    rw [if_neg (fun z => by have := of_decide_eq_true z; omega), bm_w1 (show i < 2147483647 by omega)]
    refine ⟨Z.2.1.1, sp_told (d := d + 22) h.2.1 (fun _ => hN) hk ⟨by omega, by omega⟩ ?_⟩
    rw [bm_c1_v]
    exact ih
theorem dg_121 (h : cZ b t B pr w) (hN : zN t pr pr.2.length w) (hI : bm_gi w (t + 4) 6 = (nI : Int)) (hI2 : nI ≤ 54) (v0 : Int) (hq : Φ (.inl (some (bm_l (yd_i (yd_b pr) nI v0)))) w) : ∀ (rem j : Nat), j + rem = nI → bk_X11_digest_121 (d + 26) Φ b (yd_i (yd_b pr) j v0) (j : Int) w
  | 0, j, hj => by
    have c1 := h.1.1
    have S := h.2.1.1
    refine vb_X11_digest_121 ?_
    simp only [bm_c0_v, bm_c1_v, bm_c2_v, bm_c3_v, bm_c4_v, bm_c5_v, bm_u_some, decide_eq_true_eq, true_and, and_true, and_self, Bool.not_eq_true, Bool.not_eq_true', decide_eq_false_iff_not, if_true, if_false, ite_true, ite_false, eq_self, c1.2.1, c1.2.2.2.2.1, S.2.2.2.1.1, hI]
    rw [if_pos (by omega)]
    have : j = nI := by omega
    rw [this]
    exact hq
  | rem + 1, j, hj => by
    have c1 := h.1.1
    have S := h.2.1.1
    have ih := dg_121 h hN hI hI2 v0 hq rem (j + 1) (by omega)
    have cc := hN.2 j (by omega)
    have e1 : bm_gi w (t + 113 + 2) j = q_bump 1 true (s_trs pr pr.2.length) (fun _ => 0) j := cc.1
    have e2 : bm_gi w (t + 113 + 3) j = q_bump 1 false (s_trs pr pr.2.length) (fun _ => 0) j := cc.2
    refine vb_X11_digest_121 ?_
    simp only [bm_c0_v, bm_c1_v, bm_c2_v, bm_c3_v, bm_c4_v, bm_c5_v, bm_u_some, decide_eq_true_eq, true_and, and_true, and_self, Bool.not_eq_true, Bool.not_eq_true', decide_eq_false_iff_not, if_true, if_false, ite_true, ite_false, eq_self, c1.2.1, c1.2.2.2.2.1, S.2.2.2.1.1, hI, c1.2.2.2.2.2.2.1, S.2.2.2.2.1, sp_branchCount (d := d + 25) S.2.2.2.2, Int.toNat_natCast, e1, e2, bm_w1 (show j < 2147483647 by omega)]
    rw [if_neg (by omega)]
    simp only [if_pos (show (0 : Int) ≤ (j : Int) ∧ (j : Int) < 54 from ⟨by omega, by omega⟩)]
    exact ih
theorem dg_88 (h : cZ b t B pr w) (hN : zN t pr pr.2.length w) (v0 : Int) (hq : bk_X11_digest_121 (d + 26) Φ b (yd_3 pr v0) 0 w) : ∀ (rem k : Nat), k + rem = pr.2.length → bk_X11_digest_88 (d + 26) Φ b (yd_i (yd_t pr) k v0) (k : Int) w
  | 0, k, hk => by
    have c1 := h.1.1
    have S := h.2.1.1
    refine vb_X11_digest_88 ?_
    simp only [bm_c0_v, bm_c1_v, bm_c2_v, bm_c3_v, bm_c4_v, bm_c5_v, bm_u_some, decide_eq_true_eq, true_and, and_true, and_self, Bool.not_eq_true, Bool.not_eq_true', decide_eq_false_iff_not, if_true, if_false, ite_true, ite_false, eq_self, c1.2.1, c1.2.2.2.2.1, S.2.2.2.1.1, h.2.1.2.1]
    rw [if_pos (by omega)]
    have : k = pr.2.length := by omega
    rw [this]
    exact hq
  | rem + 1, k, hk => by
    have c1 := h.1.1
    have S := h.2.1.1
    have l6 := h.2.1.2.2.1
    have ih := dg_88 h hN v0 hq rem (k + 1) (by omega)
    refine vb_X11_digest_88 ?_
    simp only [bm_c0_v, bm_c1_v, bm_c2_v, bm_c3_v, bm_c4_v, bm_c5_v, bm_u_some, decide_eq_true_eq, true_and, and_true, and_self, Bool.not_eq_true, Bool.not_eq_true', decide_eq_false_iff_not, if_true, if_false, ite_true, ite_false, eq_self, c1.2.1, c1.2.2.2.2.1, S.2.2.2.1.1, h.2.1.2.1, sp_tableAt (d := d + 25) S.2.2.2.1, bm_w1 (show k < 2147483647 by omega)]
    rw [if_neg (by omega)]
    refine vc_X11_addTable (ad_6 (d := d) h hN (by omega) (yd_i (yd_t pr) k v0) ?_ 5 0 rfl)
    rw [bm_c2_v]
    exact ih
theorem dg_53 {f : Nat} (hin : y_inr pr) (hf : f < pr.1.length) (v0 : Int) (w : bm_W) (hq : ∀ w', q_fr (fun x => t + 118 ≤ x ∧ x ≤ t + 121) w w' → cZ b t B pr w' → bk_X11_digest_39 (d + 26) Φ b (yd_f (fun w => y_ft pr f (w : Int)) 6 v0) ((f + 1 : Nat) : Int) w') : ∀ (rem i : Nat) (w1 : bm_W), i + rem = 6 → q_fr (fun x => t + 118 ≤ x ∧ x ≤ t + 121) w w1 → cZ b t B pr w1 → bk_X11_digest_53 (d + 26) Φ b (yd_f (fun w => y_ft pr f (w : Int)) i v0) (f : Int) (i : Int) w1
  | 0, i, w1, hi, F, h => by
    have l6 := h.2.2.1.2.1
    have : i = 6 := by omega
    subst this
    refine vb_X11_digest_53 ?_
    rw [if_pos (by decide), bm_w1 (show f < 2147483647 by omega)]
    exact hq w1 F h
  | rem + 1, i, w1, hi, F, h => by
    have c1 := h.1.1
    refine vb_X11_digest_53 ?_
    rw [if_neg (fun z => by have := of_decide_eq_true z; omega), bm_w1 (show i < 2147483647 by omega)]
    refine ⟨c1.2.1, co_funU (d := d + 21) h hin (fun _ w2 F2 Z2 => ?_) (fun z => absurd ⟨⟨by omega, by omega⟩, by omega, by omega⟩ z)⟩
    rw [bm_c1_v, Int.toNat_natCast]
    exact dg_53 hin hf v0 w hq rem (i + 1) w2 (by omega) (F.tr F2) Z2
theorem dg_39 (hin : y_inr pr) (v0 : Int) (w : bm_W) (hq : ∀ w', q_fr (fun x => t + 118 ≤ x ∧ x ≤ t + 121) w w' → cZ b t B pr w' → bk_X11_digest_88 (d + 26) Φ b (yd_2 pr v0) 0 w') : ∀ (rem f : Nat) (w1 : bm_W), f + rem = pr.1.length → q_fr (fun x => t + 118 ≤ x ∧ x ≤ t + 121) w w1 → cZ b t B pr w1 → bk_X11_digest_39 (d + 26) Φ b (yd_i (fun f v => yd_f (fun w => y_ft pr f (w : Int)) 6 v) f v0) (f : Int) w1
  | 0, f, w1, hi, F, h => by
    have c1 := h.1.1
    have S := h.2.1.1
    refine vb_X11_digest_39 ?_
    simp only [bm_c0_v, bm_c1_v, bm_c2_v, bm_c3_v, bm_c4_v, bm_c5_v, bm_u_some, decide_eq_true_eq, true_and, and_true, and_self, Bool.not_eq_true, Bool.not_eq_true', decide_eq_false_iff_not, if_true, if_false, ite_true, ite_false, eq_self, c1.2.1, c1.2.2.2.2.1, S.2.2.2.1.1, h.2.2.1.1]
    rw [if_pos (by omega)]
    have : f = pr.1.length := by omega
    rw [this]
    exact hq w1 F h
  | rem + 1, f, w1, hi, F, h => by
    have c1 := h.1.1
    have S := h.2.1.1
    refine vb_X11_digest_39 ?_
    simp only [bm_c0_v, bm_c1_v, bm_c2_v, bm_c3_v, bm_c4_v, bm_c5_v, bm_u_some, decide_eq_true_eq, true_and, and_true, and_self, Bool.not_eq_true, Bool.not_eq_true', decide_eq_false_iff_not, if_true, if_false, ite_true, ite_false, eq_self, c1.2.1, c1.2.2.2.2.1, S.2.2.2.1.1, h.2.2.1.1]
    rw [if_neg (by omega)]
    exact dg_53 (d := d) hin (by omega) _ w (fun w2 F2 Z2 => dg_39 hin v0 w hq rem (f + 1) w2 (by omega) F2 Z2) 6 0 w1 rfl F h
theorem dg_13 (h : cZ b t B pr w) (hI : bm_gi w (t + 4) 6 = (nI : Int)) (hq : bk_X11_digest_39 (d + 26) Φ b (yd_1 pr nI (bm_gi w (b + 1) 1)) 0 w) : ∀ (rem i : Nat), i + rem = 5 → bk_X11_digest_13 (d + 26) Φ b (yd_f (fun x => y_cnt pr nI (bm_gi w (b + 1) 1) (x : Int)) i 373) (i : Int) w
  | 0, i, hi => by
    have : i = 5 := by omega
    subst this
    refine vb_X11_digest_13 ?_
    rw [if_pos (by decide)]
    exact hq
  | rem + 1, i, hi => by
    have ih := dg_13 h hI hq rem (i + 1) (by omega)
    refine vb_X11_digest_13 ?_
    rw [if_neg (fun z => by have := of_decide_eq_true z; omega), bm_w1 (show i < 2147483647 by omega)]
    refine ⟨h.1.1.2.1, co_count (d := d + 23) h hI (fun _ => ?_) (fun z => absurd ⟨by omega, by omega⟩ z)⟩
    rw [bm_c1_v]
    exact ih
theorem dg_13z (h : cZ b t B pr w) (hI : bm_gi w (t + 4) 6 = (nI : Int)) (hq : bk_X11_digest_39 (d + 26) Φ b (yd_1 pr nI (bm_gi w (b + 1) 1)) 0 w) : bk_X11_digest_13 (d + 26) Φ b 373 0 w := dg_13 (d := d) h hI hq 5 0 rfl
theorem dg_y (h : cZ b t B pr w) (hN : zN t pr pr.2.length w) (hI : bm_gi w (t + 4) 6 = (nI : Int)) (hI2 : nI ≤ 54) (V2 : Int) (C3 : Φ (.inl (some (bm_l (yd_i (yd_b pr) nI (yd_3 pr V2))))) w) : bk_X11_digest_88 (d + 26) Φ b V2 0 w := by
  refine dg_88 (d := d) h hN V2 ?_ pr.2.length 0 (by omega)
  generalize yd_3 pr V2 = V3 at C3 ⊢
  exact dg_121 (d := d) h hN hI hI2 V3 C3 nI 0 (by omega)
theorem dg_x (hin : y_inr pr) (h : cZ b t B pr w) (hN : zN t pr pr.2.length w) (hI : bm_gi w (t + 4) 6 = (nI : Int)) (hI2 : nI ≤ 54) (V1 : Int) (hq2 : ∀ w', q_fr (fun x => t + 118 ≤ x ∧ x ≤ t + 121) w w' → cZ b t B pr w' → Φ (.inl (some (bm_l (yd_i (yd_b pr) nI (yd_3 pr (yd_2 pr V1)))))) w') : bk_X11_digest_39 (d + 26) Φ b V1 0 w := by
  refine dg_39 (d := d) hin V1 w (fun w3 F3 Z3 => ?_) pr.1.length 0 w (by omega) q_fr.rf h
  exact dg_y Z3 (hN.un h.2.1.2.2.1 F3) ((F3.gi (by omega)).trans hI) hI2 (yd_2 pr V1) (hq2 w3 F3 Z3)
theorem dg_w (hin : y_inr pr) (h : cZ b t B pr w) (hN : zN t pr pr.2.length w) (hI : bm_gi w (t + 4) 6 = (nI : Int)) (hI2 : nI ≤ 54) {V : Int} (hV : V = yd_g pr nI (bm_gi w (b + 1) 1)) (hq2 : ∀ w', q_fr (fun x => t + 118 ≤ x ∧ x ≤ t + 121) w w' → cZ b t B pr w' → Φ (.inl (some (bm_l V))) w') : bk_X11_digest_13 (d + 26) Φ b 373 0 w := by
  unfold yd_g at hV
  subst hV
  refine dg_13z (d := d) h hI ?_
  generalize yd_1 pr nI (bm_gi w (b + 1) 1) = V1 at hq2 ⊢
  exact dg_x (d := d) hin h hN hI hI2 V1 hq2
theorem co_digest (h : cZ b t B pr w) (hin : y_inr pr) (hI : bm_gi w (t + 4) 6 = (nI : Int)) (hI2 : nI ≤ 54) (hq : ∀ w', cO t 0 0 w w' → cZ b t B pr w' → Φ (.inl (some (bm_l (yd_g pr nI (bm_gi w (b + 1) 1))))) w') : bm_Call bm_pg (d + 27) y_X11_digest [bm_r (some b)] w Φ := by
  have c1 := h.1.1
  have eb := c1.1
  have S := h.2.1.1
  have os := h.1.2.2.2.2.2.1.1
  refine vc_X11_digest ?_
  simp only [bm_c0_v, bm_c1_v, bm_c2_v, bm_c3_v, bm_c4_v, bm_c5_v, bm_u_some, decide_eq_true_eq, true_and, and_true, and_self, Bool.not_eq_true, Bool.not_eq_true', decide_eq_false_iff_not, if_true, if_false, ite_true, ite_false, eq_self, c1.2.1, c1.2.2.2.2.2.2.2.1, S.1]
  refine h.refresh (d := d) (fun w2 O2 Z2 N2 => ?_)
  rw [bm_c0_v]
  have nA : ∀ a, a < t + 70 → ¬ (zX t a ∨ (t + 117 ≤ a ∧ a ≤ t + 121)) := fun a ha z => by
    rcases z with z | z
    · have := zX.no (Or.inl z); omega
    · omega
  have I2 : bm_gi w2 (t + 4) 6 = (nI : Int) := (O2.gi (by omega) (nA _ (by omega))).trans hI
  have L2 : bm_gi w2 (b + 1) 1 = bm_gi w (b + 1) 1 := O2.gi (by omega) (nA _ (by omega))
  rw [← L2] at hq
  generalize hV : yd_g pr nI (bm_gi w2 (b + 1) 1) = V at hq
  exact dg_w (d := d) hin Z2 N2 I2 hI2 hV.symm (fun w3 F3 Z3 => hq w3 (O2.tr (cO.un F3)) Z3)
end DG
