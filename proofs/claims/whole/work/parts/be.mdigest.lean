/-! ===== the digest, in the model ===== -/
/-- what digesting may change in the model -/
def mD (m : Nat) (w w' : bm_W) : Prop := mO m 0 0 w w' ∧ bm_gi w' m 0 = bm_gi w m 0
section MDG
variable {d m k nI : Nat} {B : Int → Int} {pr : y_pr} {w w' : bm_W} {Φ : bm_Rt → bm_W → Prop}
theorem mD.rf : mD m w w := ⟨mO.rf, rfl⟩
theorem mD.tr {w1 w2 : bm_W} (h : mD m w w1) (h2 : mD m w1 w2) : mD m w w2 := ⟨h.1.tr h2.1, h2.2.trans h.2⟩
theorem mD.mQ (h : mQ m [] w w') : mD m w w' := ⟨mO.mQ h, h.2.1 0 (by decide)⟩
theorem mD.mk (h : mMk m w w') : mD m w w' := ⟨mO.mk h, by
  have h' : q_fr (fun a => a = m + 30 ∨ a = m + 31) w w' := h
  exact h'.gi (by omega)⟩
theorem mD.un (h : q_fr (fun b => b = m + 31) w w') : mD m w w' := ⟨mO.of h (fun a z => by omega) (fun k _ _ => h.gi (by omega)), h.gi (by omega)⟩
theorem mD.ky {j : Nat} (h : mD m w w') (hj : j ≠ 36) : bm_gi w' m j = bm_gi w m j := by
  by_cases c : j = 0
  · rw [c]; exact h.2
  · exact h.1.2 j c hj
/-- the inputs of a case -/
theorem md_151 {v6 c : Nat} (h : mA m B pr w) (hk : k < pr.2.length) (h6 : v6 = m + 31) (hc : (c : Int) < y_ct (pr.2.getD k y_t0).2.2) (g : ∀ j, j < (y_tF pr k).2.1.length → bm_gi w (m + 31) j = s_in (pr.2.getD k y_t0).2.2 (c : Int) j) (v0 : Int) (hq : bk_X12_digest_132 (d + 1203) Φ m (yd_c pr k c v0) (k : Int) (y_ct (pr.2.getD k y_t0).2.2) ((c + 1 : Nat) : Int) w) : ∀ (rem i : Nat), i + rem = (y_tF pr k).2.1.length → bk_X12_digest_151 (d + 1203) Φ m (yd_f (fun i => s_in (pr.2.getD k y_t0).2.2 (c : Int) i) i v0) (k : Int) (y_ct (pr.2.getD k y_t0).2.2) (c : Int) v6 (i : Int) w
  | 0, i, hi => by
    have T := (h.tab hk).1
    have hk6 := T.2.1
    have hf := T.2.2.2.1
    have n3 := T.2.2.2.2.2.2.1
    have ct := T.2.2.2.2.2.2.2.2.2.1
    subst h6
    refine vb_X12_digest_151 ?_
    simp only [bm_c0_v, bm_c1_v, bm_c2_v, bm_c3_v, bm_c4_v, bm_c5_v, bm_u_some, decide_eq_true_eq, true_and, and_true, and_self, Bool.not_eq_true, Bool.not_eq_true', decide_eq_false_iff_not, if_true, if_false, ite_true, ite_false, eq_self, h.1.1, h.1.1, h.1.g20, h.1.t20, h.1.n20, h.1.g30, h.1.t30, h.1.n30, h.1.g42, h.1.t42, h.1.n42, bm_in, Int.toNat_natCast, T.2.2.1, T.2.2.2.2.1]
    refine ⟨by omega, by omega, ?_⟩
    rw [if_pos (by omega), bm_w1 (show c < 2147483647 by omega)]
    have : i = (y_tF pr k).2.1.length := by omega
    rw [this]
    exact hq
  | rem + 1, i, hi => by
    have T := (h.tab hk).1
    have hk6 := T.2.1
    have hf := T.2.2.2.1
    have n3 := T.2.2.2.2.2.2.1
    have ih := md_151 h hk h6 hc g v0 hq rem (i + 1) (by omega)
    subst h6
    refine vb_X12_digest_151 ?_
    simp only [bm_c0_v, bm_c1_v, bm_c2_v, bm_c3_v, bm_c4_v, bm_c5_v, bm_u_some, decide_eq_true_eq, true_and, and_true, and_self, Bool.not_eq_true, Bool.not_eq_true', decide_eq_false_iff_not, if_true, if_false, ite_true, ite_false, eq_self, h.1.1, h.1.1, h.1.g20, h.1.t20, h.1.n20, h.1.g30, h.1.t30, h.1.n30, h.1.g42, h.1.t42, h.1.n42, bm_in, Int.toNat_natCast, T.2.2.1, T.2.2.2.2.1, g i (by omega)]
    refine ⟨by omega, by omega, ?_⟩
    rw [if_neg (by omega), bm_w1 (show i < 2147483647 by omega)]
    exact ⟨by omega, ih⟩
theorem md_132 (hk : k < pr.2.length) (v0 : Int) (w : bm_W) (hq : ∀ w', mD m w w' → mA m B pr w' → bk_X12_digest_84 (d + 1203) Φ m (yd_i (yd_c pr k) (y_ct (pr.2.getD k y_t0).2.2).toNat v0) ((k + 1 : Nat) : Int) w') : ∀ (rem c : Nat) (w1 : bm_W), (c : Int) + rem = y_ct (pr.2.getD k y_t0).2.2 → mD m w w1 → mA m B pr w1 → bk_X12_digest_132 (d + 1203) Φ m (yd_i (yd_c pr k) c v0) (k : Int) (y_ct (pr.2.getD k y_t0).2.2) (c : Int) w1
  | 0, c, w1, hc, F, h => by
    have T := (h.tab hk).1
    have hk6 := T.2.1
    refine vb_X12_digest_132 ?_
    rw [if_pos (decide_eq_true (by omega)), bm_w1 (show k < 2147483647 by omega)]
    have : c = (y_ct (pr.2.getD k y_t0).2.2).toNat := by omega
    rw [this]
    exact hq w1 F h
  | rem + 1, c, w1, hc, F, h => by
    have T := (h.tab hk).1
    refine vb_X12_digest_132 ?_
    rw [if_neg (fun z => by have := of_decide_eq_true z; omega)]
    refine ⟨h.1.1, mm_caseInputs (d := d + 1201) T (by omega) (by omega) (fun w2 F2 g2 => ?_)⟩
    rw [bm_c3_v]
    have D2 := mD.un F2
    have A2 := h.mO D2.1
    exact md_151 (d := d) A2 hk rfl (by omega) g2 (yd_i (yd_c pr k) c v0) (md_132 hk v0 w hq rem (c + 1) w2 (by omega) (F.tr D2) A2) (y_tF pr k).2.1.length 0 (by omega)
theorem md_95 (hk : k < pr.2.length) (v0 : Int) (w : bm_W) (h37 : bm_gi w m 37 = 0) (hq : ∀ w', mD m w w' → mA m B pr w' → bk_X12_digest_84 (d + 1203) Φ m (yd_t pr k v0) ((k + 1 : Nat) : Int) w') : ∀ (rem i : Nat) (w1 : bm_W), i + rem = 5 → mD m w w1 → mA m B pr w1 → bk_X12_digest_95 (d + 1203) Φ m (yd_f (fun w => y_told pr k (w : Int)) i v0) (k : Int) (i : Int) w1
  | 0, i, w1, hi, F, h => by
    have T := (h.tab hk).1
    have nn : 0 ≤ y_ct (pr.2.getD k y_t0).2.2 := y_ct_nn _ (fun i hi => (y_cs_3 (T.lk hi).2.2 (by rw [(T.lk hi).2.1]; exact T.2.2.2.2.2.2.1)).1)
    have : i = 5 := by omega
    subst this
    refine vb_X12_digest_95 ?_
    rw [if_pos (by decide)]
    refine ⟨h.1.1, (T.cases (d := d + 1201)).2 ?_⟩
    rw [bm_c1_v]
    exact md_132 (d := d) hk (yd_f (fun w => y_told pr k (w : Int)) 5 v0) w hq (y_ct (pr.2.getD k y_t0).2.2).toNat 0 w1 (by omega) F h
  | rem + 1, i, w1, hi, F, h => by
    refine vb_X12_digest_95 ?_
    rw [if_neg (fun z => by have := of_decide_eq_true z; omega), bm_w1 (show i < 2147483647 by omega)]
    refine ⟨h.1.1, mm_tableTold (d := d) h ((F.ky (by decide)).trans h37) hk ⟨by omega, by omega⟩ (fun w2 Q2 => ?_)⟩
    rw [bm_c1_v]
    exact md_95 hk v0 w h37 hq rem (i + 1) w2 (by omega) (F.tr (mD.mQ Q2)) (h.mQ Q2)
theorem md_84 (v0 : Int) (w : bm_W) (h37 : bm_gi w m 37 = 0) (h27 : bm_gi w m 27 = (nI : Int)) (hn : nI ≤ 54) (hq : ∀ w', mD m w w' → mA m B pr w' → (∀ j, j < nI → bm_gi w' (m + 28) j = q_bump 1 true (s_trs pr pr.2.length) (fun _ => 0) j ∧ bm_gi w' (m + 29) j = q_bump 1 false (s_trs pr pr.2.length) (fun _ => 0) j) → bk_X12_digest_204 (d + 1203) Φ m (yd_3 pr v0) 0 w') : ∀ (rem k : Nat) (w1 : bm_W), k + rem = pr.2.length → mD m w w1 → mA m B pr w1 → bk_X12_digest_84 (d + 1203) Φ m (yd_i (yd_t pr) k v0) (k : Int) w1
  | 0, k, w1, hk, F, h => by
    have h28 : bm_gi w1 m 28 = (pr.2.length : Int) := h.2.2.2.1.1
    refine vb_X12_digest_84 ?_
    rw [h28, if_pos (decide_eq_true (by omega))]
    refine ⟨h.1.1, h.1.1, mp_countBranches (d := d + 1) h ((F.ky (by decide)).trans h27) hn ((F.ky (by decide)).trans h37) (fun w2 O2 e2 g2 => ?_)⟩
    rw [bm_c0_v]
    have : k = pr.2.length := by omega
    rw [this]
    exact hq w2 (F.tr ⟨O2, e2⟩) (h.mO O2) g2
  | rem + 1, k, w1, hk, F, h => by
    have h28 : bm_gi w1 m 28 = (pr.2.length : Int) := h.2.2.2.1.1
    refine vb_X12_digest_84 ?_
    rw [h28, if_neg (fun z => by have := of_decide_eq_true z; omega)]
    refine ⟨h.1.1, md_95 (d := d) (by omega) (yd_i (yd_t pr) k v0) w1 ((F.ky (by decide)).trans h37) (fun w2 F2 A2 => ?_) 5 0 w1 rfl mD.rf h⟩
    exact md_84 v0 w h37 h27 hn hq rem (k + 1) w2 (by omega) (F.tr F2) A2
theorem md_204 (h : mA m B pr w) (h27 : bm_gi w m 27 = (nI : Int)) (hn : nI ≤ 54) (g : ∀ j, j < nI → bm_gi w (m + 28) j = q_bump 1 true (s_trs pr pr.2.length) (fun _ => 0) j ∧ bm_gi w (m + 29) j = q_bump 1 false (s_trs pr pr.2.length) (fun _ => 0) j) (v0 : Int) (hq : Φ (.inl (some (bm_l (yd_i (yd_b pr) nI v0)))) w) : ∀ (rem j : Nat), j + rem = nI → bk_X12_digest_204 (d + 1203) Φ m (yd_i (yd_b pr) j v0) (j : Int) w
  | 0, j, hj => by
    refine vb_X12_digest_204 ?_
    rw [h27, if_pos (decide_eq_true (by omega))]
    have : j = nI := by omega
    rw [this]
    exact ⟨h.1.1, hq⟩
  | rem + 1, j, hj => by
    have ih := md_204 h h27 hn g v0 hq rem (j + 1) (by omega)
    have g2 := g j (by omega)
    refine vb_X12_digest_204 ?_
    simp only [bm_c0_v, bm_c1_v, bm_c2_v, bm_c3_v, bm_c4_v, bm_c5_v, bm_u_some, decide_eq_true_eq, true_and, and_true, and_self, Bool.not_eq_true, Bool.not_eq_true', decide_eq_false_iff_not, if_true, if_false, ite_true, ite_false, eq_self, h.1.1, h.1.1, h.1.g38, h.1.t38, h.1.n38, h.1.g39, h.1.t39, h.1.n39, bm_in, Int.toNat_natCast, h27, g2.1, g2.2, bm_w1 (show j < 2147483647 by omega)]
    rw [if_neg (by omega)]
    exact ⟨by omega, by omega, ih⟩
theorem md_48 {f : Nat} (hin : y_inr pr) (hf : f < pr.1.length) (v0 : Int) (w : bm_W) (hq : ∀ w', mD m w w' → mA m B pr w' → bk_X12_digest_37 (d + 1203) Φ m (yd_f (fun w => y_ft pr f (w : Int)) 6 v0) ((f + 1 : Nat) : Int) w') : ∀ (rem i : Nat) (w1 : bm_W), i + rem = 6 → mD m w w1 → mA m B pr w1 → bk_X12_digest_48 (d + 1203) Φ m (yd_f (fun w => y_ft pr f (w : Int)) i v0) (f : Int) (i : Int) w1
  | 0, i, w1, hi, F, h => by
    have f6 := h.2.2.1.2.1
    have : i = 6 := by omega
    subst this
    refine vb_X12_digest_48 ?_
    rw [if_pos (by decide), bm_w1 (show f < 2147483647 by omega)]
    exact hq w1 F h
  | rem + 1, i, w1, hi, F, h => by
    refine vb_X12_digest_48 ?_
    rw [if_neg (fun z => by have := of_decide_eq_true z; omega), bm_w1 (show i < 2147483647 by omega)]
    refine ⟨h.1.1, mp_funTold (d := d + 1198) h hin hf ⟨by omega, by omega⟩ (fun w2 A2 F2 => ?_)⟩
    rw [bm_c1_v]
    exact md_48 hin hf v0 w hq rem (i + 1) w2 (by omega) (F.tr (mD.mk F2)) A2
theorem md_37 (hin : y_inr pr) (v0 : Int) (w : bm_W) (hq : ∀ w', mD m w w' → mA m B pr w' → bk_X12_digest_84 (d + 1203) Φ m (yd_2 pr v0) 0 w') : ∀ (rem f : Nat) (w1 : bm_W), f + rem = pr.1.length → mD m w w1 → mA m B pr w1 → bk_X12_digest_37 (d + 1203) Φ m (yd_i (fun f v => yd_f (fun w => y_ft pr f (w : Int)) 6 v) f v0) (f : Int) w1
  | 0, f, w1, hi, F, h => by
    have h18 : bm_gi w1 m 18 = (pr.1.length : Int) := h.2.2.1.1
    refine vb_X12_digest_37 ?_
    rw [h18, if_pos (decide_eq_true (by omega))]
    have : f = pr.1.length := by omega
    rw [this]
    exact ⟨h.1.1, hq w1 F h⟩
  | rem + 1, f, w1, hi, F, h => by
    have h18 : bm_gi w1 m 18 = (pr.1.length : Int) := h.2.2.1.1
    refine vb_X12_digest_37 ?_
    rw [h18, if_neg (fun z => by have := of_decide_eq_true z; omega)]
    exact ⟨h.1.1, md_48 (d := d) hin (by omega) _ w1 (fun w2 F2 A2 => md_37 hin v0 w hq rem (f + 1) w2 (by omega) (F.tr F2) A2) 6 0 w1 rfl mD.rf h⟩
theorem md_11 (h : mA m B pr w) (h27 : bm_gi w m 27 = (nI : Int)) (hq : bk_X12_digest_37 (d + 1203) Φ m (yd_1 pr nI (bm_gi w m 2)) 0 w) : ∀ (rem i : Nat), i + rem = 5 → bk_X12_digest_11 (d + 1203) Φ m (yd_f (fun x => y_cnt pr nI (bm_gi w m 2) (x : Int)) i 373) (i : Int) w
  | 0, i, hi => by
    have : i = 5 := by omega
    subst this
    refine vb_X12_digest_11 ?_
    rw [if_pos (by decide)]
    exact hq
  | rem + 1, i, hi => by
    have ih := md_11 h h27 hq rem (i + 1) (by omega)
    refine vb_X12_digest_11 ?_
    rw [if_neg (fun z => by have := of_decide_eq_true z; omega), bm_w1 (show i < 2147483647 by omega)]
    refine ⟨h.1.1, mo_counted (d := d + 1200) h h27 ⟨by omega, by omega⟩ ?_⟩
    rw [bm_c1_v]
    exact ih
theorem md_11z (h : mA m B pr w) (h27 : bm_gi w m 27 = (nI : Int)) (hq : bk_X12_digest_37 (d + 1203) Φ m (yd_1 pr nI (bm_gi w m 2)) 0 w) : bk_X12_digest_11 (d + 1203) Φ m 373 0 w := md_11 (d := d) h h27 hq 5 0 rfl
theorem md_y (h37 : bm_gi w m 37 = 0) (h27 : bm_gi w m 27 = (nI : Int)) (hn : nI ≤ 54) (h : mA m B pr w) (V2 : Int) (C3 : ∀ w', mD m w w' → mA m B pr w' → Φ (.inl (some (bm_l (yd_i (yd_b pr) nI (yd_3 pr V2))))) w') : bk_X12_digest_84 (d + 1203) Φ m V2 0 w := by
  refine md_84 (d := d) V2 w h37 h27 hn (fun w2 D2 A2 g2 => ?_) pr.2.length 0 w (by omega) mD.rf h
  have C4 := C3 w2 D2 A2
  generalize yd_3 pr V2 = V3 at C4 ⊢
  exact md_204 (d := d) A2 ((D2.ky (by decide)).trans h27) hn g2 V3 C4 nI 0 (by omega)
theorem md_x (hin : y_inr pr) (h37 : bm_gi w m 37 = 0) (h27 : bm_gi w m 27 = (nI : Int)) (hn : nI ≤ 54) (h : mA m B pr w) (V1 : Int) (C3 : ∀ w', mD m w w' → mA m B pr w' → Φ (.inl (some (bm_l (yd_i (yd_b pr) nI (yd_3 pr (yd_2 pr V1)))))) w') : bk_X12_digest_37 (d + 1203) Φ m V1 0 w := by
  refine md_37 (d := d) hin V1 w (fun w2 D2 A2 => ?_) pr.1.length 0 w (by omega) mD.rf h
  exact md_y (d := d) ((D2.ky (by decide)).trans h37) ((D2.ky (by decide)).trans h27) hn A2 (yd_2 pr V1) (fun w3 D3 A3 => C3 w3 (D2.tr D3) A3)
theorem md_w (hin : y_inr pr) (h37 : bm_gi w m 37 = 0) (h27 : bm_gi w m 27 = (nI : Int)) (hn : nI ≤ 54) (h : mA m B pr w) {V : Int} (hV : V = yd_g pr nI (bm_gi w m 2)) (C3 : ∀ w', mD m w w' → mA m B pr w' → Φ (.inl (some (bm_l V))) w') : bk_X12_digest_11 (d + 1203) Φ m 373 0 w := by
  unfold yd_g at hV
  subst hV
  refine md_11z (d := d) h h27 ?_
  generalize yd_1 pr nI (bm_gi w m 2) = V1 at C3 ⊢
  exact md_x (d := d) hin h37 h27 hn h V1 C3
theorem mo_digest (h : mA m B pr w) (hin : y_inr pr) (h37 : bm_gi w m 37 = 0) (h27 : bm_gi w m 27 = (nI : Int)) (hn : nI ≤ 54) (hq : ∀ w', mO m 0 0 w w' → bm_gi w' m 0 = 0 → mA m B pr w' → Φ (.inl (some (bm_l (yd_g pr nI (bm_gi w m 2))))) w') : bm_Call bm_pg (d + 1204) y_X12_digest [bm_r (some m)] w Φ := by
  refine vc_X12_digest ?_
  have h0 := h.thr (v := 0)
  have z0 : mO m 0 0 w (bm_si w m 0 0) := mO.rf.thr
  have e0 : bm_gi (bm_si w m 0 0) m 0 = 0 := q_gi_eq
  have ek : ∀ k, k ≠ 0 → bm_gi (bm_si w m 0 0) m k = bm_gi w m k := fun k hk => q_gi_nk hk
  refine ⟨h.1.1, ?_⟩
  show bk_X12_digest_11 (d + 1203) Φ m 373 0 (bm_si w m 0 0)
  rw [← ek 2 (by decide)] at hq
  rw [← ek 37 (by decide)] at h37
  rw [← ek 27 (by decide)] at h27
  generalize bm_si w m 0 0 = w1 at h0 z0 e0 h37 h27 hq ⊢
  generalize hV : yd_g pr nI (bm_gi w1 m 2) = V at hq
  exact md_w (d := d) hin h37 h27 hn h0 hV.symm (fun w2 D2 A2 => hq w2 (z0.tr D2.1) (D2.2.trans e0) A2)
end MDG
