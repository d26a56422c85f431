/-! ===== the model's answers: tables ===== -/
/-- what asking may change in the model -/
def mO (m c s : Nat) (w w' : bm_W) : Prop := q_gw (fun a => a = m ∨ (m + 28 ≤ a ∧ a ≤ m + 31)) (fun _ => False) c s w w' ∧ ∀ k, k ≠ 0 → k ≠ 36 → bm_gi w' m k = bm_gi w m k
theorem mO.rf {m : Nat} {w : bm_W} : mO m 0 0 w w := ⟨q_gw.rf, fun _ _ _ => rfl⟩
theorem mO.tr {m c s c' s' : Nat} {w w1 w2 : bm_W} (h : mO m c s w w1) (h2 : mO m c' s' w1 w2) : mO m (c + c') (s + s') w w2 := ⟨h.1.tr h2.1, fun k a b => (h2.2 k a b).trans (h.2 k a b)⟩
theorem mO.thr {m c s : Nat} {v : Int} {w w' : bm_W} (h : mO m c s w w') : mO m c s w (bm_si w' m 0 v) := ⟨h.1.si (Or.inl (Or.inl rfl)), fun k a b => (q_gi_nk a).trans (h.2 k a b)⟩
theorem mO.of {m : Nat} {A : Nat → Prop} {w w' : bm_W} (h : q_fr A w w') (hA : ∀ a, A a → a = m ∨ (m + 28 ≤ a ∧ a ≤ m + 31)) (hk : ∀ k, k ≠ 0 → k ≠ 36 → bm_gi w' m k = bm_gi w m k) : mO m 0 0 w w' := ⟨q_gw.of (h.mo hA), hk⟩
theorem mO.mQ {m : Nat} {tr : List (Int × Bool)} {w w' : bm_W} (h : mQ m tr w w') : mO m 0 0 w w' := mO.of h.1 (fun a z => by omega) (fun k _ b => h.2.1 k b)
theorem mA.mO {m c s : Nat} {B : Int → Int} {pr : y_pr} {w w' : bm_W} (h : mA m B pr w) (hO : mO m c s w w') : mA m B pr w' := by
  have hs := h.2.1
  exact h.mv (h.1.gw hO.1 hs (fun z => z)) (by have := hO.1.1.1; omega) (fun a j u v => ⟨hO.1.gi (by omega) (by omega), hO.1.gl (by omega) (by omega)⟩) (hO.2 18 (by decide) (by decide)) (hO.2 28 (by decide) (by decide)) (hO.2 11 (by decide) (by decide))
/-- what a table tells -/
def y_told (pr : y_pr) (k : Nat) (what : Int) : Int := if what = 0 then ((pr.2.getD k y_t0).2.1 : Int) else if what = 1 then ((pr.2.getD k y_t0).2.2.length : Int) else if what = 2 then y_ct (pr.2.getD k y_t0).2.2 else if what = 3 then s_cnt (y_h pr k) (y_ct (pr.2.getD k y_t0).2.2).toNat else s_fst (y_h pr k) 0 (y_ct (pr.2.getD k y_t0).2.2).toNat
section MO
variable {d m : Nat} {B : Int → Int} {pr : y_pr} {w w' : bm_W} {Φ : bm_Rt → bm_W → Prop}
theorem mp_no {e : Int} (h : bm_kt w m = 12) : bm_Call bm_pg (d + 1) y_X12_no [bm_r (some m), bm_i e] w Φ ↔ Φ (.inl (some (bm_i 0))) (bm_si w m 0 e) :=
  bm_ans (fun Ψ q => vc_X12_no ⟨h, q⟩)
theorem mA.isTable (h : mA m B pr w) {x : Int} : bm_Call bm_pg (d + 2) y_X12_isTable [bm_r (some m), bm_i x] w Φ ↔ Φ (.inl (some (bm_i (if 0 ≤ x ∧ x < (pr.2.length : Int) then 1 else 0)))) w := by
  have l6 := h.2.2.2.1.2.1
  refine bm_ans (fun Ψ q => vc_X12_isTable ?_)
  simp only [h.1.1, true_and, h.2.2.2.1.1, q_wI (x := (pr.2.length : Int) - 1) ⟨by omega, by omega⟩, mp_isIn, bm_c1_v]
  by_cases c : 0 ≤ x ∧ x < (pr.2.length : Int)
  · rw [if_pos c] at q
    rw [if_pos ⟨by omega, by omega⟩]
    exact ⟨Or.inr rfl, q⟩
  · rw [if_neg c] at q
    rw [if_neg (by omega)]
    exact ⟨Or.inl rfl, q⟩
theorem mA.isFun (h : mA m B pr w) {x : Int} : bm_Call bm_pg (d + 2) y_X12_isFun [bm_r (some m), bm_i x] w Φ ↔ Φ (.inl (some (bm_i (if 0 ≤ x ∧ x < (pr.1.length : Int) then 1 else 0)))) w := by
  have l6 := h.2.2.1.2.1
  refine bm_ans (fun Ψ q => vc_X12_isFun ?_)
  simp only [h.1.1, true_and, h.2.2.1.1, q_wI (x := (pr.1.length : Int) - 1) ⟨by omega, by omega⟩, mp_isIn, bm_c1_v]
  by_cases c : 0 ≤ x ∧ x < (pr.1.length : Int)
  · rw [if_pos c] at q
    rw [if_pos ⟨by omega, by omega⟩]
    exact ⟨Or.inr rfl, q⟩
  · rw [if_neg c] at q
    rw [if_neg (by omega)]
    exact ⟨Or.inl rfl, q⟩
/-- whether a case is there -/
abbrev y_isc (pr : y_pr) (x k : Int) : Prop := 0 ≤ x ∧ x < (pr.2.length : Int) ∧ 0 ≤ k ∧ k < y_ct (pr.2.getD x.toNat y_t0).2.2
theorem mA.isCase (h : mA m B pr w) {x k : Int} : bm_Call bm_pg (d + 3) y_X12_isCase [bm_r (some m), bm_i x, bm_i k] w Φ ↔ Φ (.inl (some (bm_i (if y_isc pr x k then 1 else 0)))) w := by
  refine bm_ans (fun Ψ q => vc_X12_isCase ?_)
  simp only [bm_c0_v, bm_c1_v, bm_c2_v, bm_c3_v, bm_c4_v, bm_c5_v, bm_u_some, decide_eq_true_eq, true_and, and_true, and_self, Bool.not_eq_true, Bool.not_eq_true', decide_eq_false_iff_not, if_true, if_false, ite_true, ite_false, eq_self, h.1.1, h.isTable, bm_c1_v]
  unfold y_isc at q
  by_cases c : 0 ≤ x ∧ x < (pr.2.length : Int)
  · rw [if_pos c, if_neg (by decide)]
    obtain ⟨t, rfl⟩ : ∃ t : Nat, x = (t : Int) := ⟨x.toNat, by omega⟩
    have T := (h.tab (k := t) (by omega)).1
    have ct := T.2.2.2.2.2.2.2.2.2.1
    have nn : 0 ≤ y_ct (pr.2.getD t y_t0).2.2 := y_ct_nn _ (fun i hi => (y_cs_3 (T.lk hi).2.2 (by rw [(T.lk hi).2.1]; exact T.2.2.2.2.2.2.1)).1)
    rw [Int.toNat_natCast] at q
    simp only [T.cases, bm_c1_v, mp_isIn, q_wI (x := y_ct (pr.2.getD t y_t0).2.2 - 1) ⟨by omega, by omega⟩]
    by_cases c2 : 0 ≤ k ∧ k < y_ct (pr.2.getD t y_t0).2.2
    · rw [if_pos ⟨c.1, c.2, c2⟩] at q
      rw [if_neg (show ¬ (if 0 ≤ k ∧ k ≤ y_ct (pr.2.getD t y_t0).2.2 - 1 then (1 : Int) else 0) = 0 by rw [if_pos ⟨by omega, by omega⟩]; decide)]
      exact ⟨Or.inr trivial, q⟩
    · rw [if_neg (fun z => c2 z.2.2)] at q
      rw [if_pos (show (if 0 ≤ k ∧ k ≤ y_ct (pr.2.getD t y_t0).2.2 - 1 then (1 : Int) else 0) = 0 by rw [if_neg (by omega)])]
      exact ⟨Or.inl trivial, q⟩
  · rw [if_neg (fun z => c ⟨z.1, z.2.1⟩)] at q
    rw [if_neg c, if_pos rfl]
    exact ⟨Or.inl trivial, q⟩
theorem mm_tableTold {k : Nat} {what : Int} (h : mA m B pr w) (h37 : bm_gi w m 37 = 0) (hk : k < pr.2.length) (hw : 0 ≤ what ∧ what ≤ 4) (hq : ∀ w', mQ m [] w w' → Φ (.inl (some (bm_i (y_told pr k what)))) w') : bm_Call bm_pg (d + 1203) y_X12_tableTold [bm_r (some m), bm_i (k : Int), bm_i what] w Φ := by
  have T := (h.tab hk).1
  have k6 := T.2.1
  have ct := T.2.2.2.2.2.2.2.2.2.1
  have nn : 0 ≤ y_ct (pr.2.getD k y_t0).2.2 := y_ct_nn _ (fun i hi => (y_cs_3 (T.lk hi).2.2 (by rw [(T.lk hi).2.1]; exact T.2.2.2.2.2.2.1)).1)
  have rf : mQ m [] w w := ⟨q_fr.rf, fun _ _ => rfl, fun _ => rfl, fun _ => rfl⟩
  have S := h.1
  refine vc_X12_tableTold ?_
  by_cases c3 : 3 ≤ what
  · rw [if_pos (by simpa using c3)]
    simp only [S.1, true_and, T.cases, bm_c1_v]
    rw [q_wI (x := y_ct (pr.2.getD k y_t0).2.2 - 1) ⟨by omega, by omega⟩]
    have := mm_52 (d := d) (Φ := Φ) (what := what) hk (by omega) w h37 (fun w' Q A => by
      have hq := hq w' Q
      unfold y_told at hq
      rw [if_neg (by omega), if_neg (by omega), if_neg (by omega)] at hq
      exact hq) (y_ct (pr.2.getD k y_t0).2.2).toNat 0 w (by omega) h rf
    simp only [Nat.add_zero, Int.sub_self, Int.toNat_of_nonneg nn] at this
    exact this
  · rw [if_neg (by simpa using c3)]
    have hq := hq w rf
    unfold y_told at hq
    rcases (show what = 0 ∨ what = 1 ∨ what = 2 by omega) with rfl | rfl | rfl
    · rw [if_neg (by decide)]
      rw [if_pos rfl] at hq
      simp only [bm_c0_v, bm_c1_v, bm_c2_v, bm_c3_v, bm_c4_v, bm_c5_v, bm_u_some, decide_eq_true_eq, true_and, and_true, and_self, Bool.not_eq_true, Bool.not_eq_true', decide_eq_false_iff_not, if_true, if_false, ite_true, ite_false, eq_self, S.1, S.g30, S.t30, S.n30, bm_in, Int.toNat_natCast, T.2.2.1]
      exact ⟨by omega, hq⟩
    · rw [if_pos (by decide), if_neg (by decide)]
      rw [if_neg (by decide), if_pos rfl] at hq
      simp only [bm_c0_v, bm_c1_v, bm_c2_v, bm_c3_v, bm_c4_v, bm_c5_v, bm_u_some, decide_eq_true_eq, true_and, and_true, and_self, Bool.not_eq_true, Bool.not_eq_true', decide_eq_false_iff_not, if_true, if_false, ite_true, ite_false, eq_self, S.1, S.g31, S.t31, S.n31, bm_in, Int.toNat_natCast, T.2.2.2.2.2.2.2.1]
      exact ⟨by omega, hq⟩
    · rw [if_pos (by decide), if_pos (by decide)]
      rw [if_neg (by decide), if_neg (by decide), if_pos rfl] at hq
      simp only [S.1, true_and, T.cases, bm_c1_v]
      exact hq
end MO
