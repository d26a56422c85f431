/-! ===== cases of tables, in the model ===== -/
/-- the row of a case, and the case's number in it -/
def s_at : List y_rw → Int → Nat × Int
  | [], k => (0, k)
  | R :: l, k => if k < y_cs R.1 then (0, k) else ((s_at l (k - y_cs R.1)).1 + 1, (s_at l (k - y_cs R.1)).2)
theorem s_at_c {R : y_rw} {l : List y_rw} {k : Int} : s_at (R :: l) k = if k < y_cs R.1 then (0, k) else ((s_at l (k - y_cs R.1)).1 + 1, (s_at l (k - y_cs R.1)).2) := rfl
theorem s_at_rng : ∀ (rows : List y_rw) (k : Int), 0 ≤ k → k < y_ct rows → (s_at rows k).1 < rows.length ∧ 0 ≤ (s_at rows k).2 ∧ (s_at rows k).2 < y_cs (rows.getD (s_at rows k).1 y_r0).1
  | [], k, h0, h => by simp [y_ct] at h; omega
  | R :: l, k, h0, h => by
    unfold s_at
    by_cases c : k < y_cs R.1
    · rw [if_pos c]
      exact ⟨by simp, h0, c⟩
    · rw [if_neg c]
      have e : y_ct (R :: l) = y_cs R.1 + y_ct l := rfl
      have := s_at_rng l (k - y_cs R.1) (by omega) (by omega)
      exact ⟨by simp only [List.length_cons]; omega, this.2.1, this.2.2⟩
/-- a table, as the model keeps it -/
def mT (m k f n : Nat) (rows : List y_rw) (w : bm_W) : Prop := sh_Md m w ∧ k < 6 ∧ bm_gi w (m + 22) k = (f : Int) ∧ f < 6 ∧ bm_gi w (m + 14) f = (n : Int) ∧ 1 ≤ n ∧ n ≤ 3 ∧ mrs m k n rows w
section MV
variable {d m k f n r : Nat} {B : Int → Int} {w : bm_W} {Φ : bm_Rt → bm_W → Prop} {rows : List y_rw}
theorem mT.mv {w' : bm_W} (h : mT m k f n rows w) (S : sh_Md m w') (e : ∀ a j, (a = m + 14 ∨ (m + 22 ≤ a ∧ a ≤ m + 27)) → bm_gi w' a j = bm_gi w a j ∧ bm_gl w' a j = bm_gl w a j) : mT m k f n rows w' := by
  obtain ⟨S0, hk, h22, hf, h14, h1, h3, b1, b2, b3, b4⟩ := h
  refine ⟨S, hk, (e _ _ (by omega)).1.trans h22, hf, (e _ _ (by omega)).1.trans h14, h1, h3, (e _ _ (by omega)).1.trans b1, b2, b3, fun i hi => ⟨?_, (b4 i hi).2⟩⟩
  obtain ⟨c1, c2, c3⟩ := (b4 i hi).1
  refine ⟨fun c hc => ?_, (e _ _ (by omega)).1.trans c2, (e _ _ (by omega)).2.trans c3⟩
  rw [(e _ _ (by omega)).1, (e _ _ (by omega)).1]
  exact c1 c hc
theorem mT.lk {i : Nat} (h : mT m k f n rows w) (hi : i < rows.length) : mrw m k i (rows.getD i y_r0) w ∧ (rows.getD i y_r0).1.length = n ∧ y_lk (rows.getD i y_r0).1 := by
  obtain ⟨S, hk, h22, hf, h14, h1, h3, b1, b2, b3, b4⟩ := h
  exact ⟨(b4 i hi).1, (b4 i hi).2.1, fun c hc => (b4 i hi).2.2.1 c (by rw [← (b4 i hi).2.1]; exact hc)⟩
theorem mT.casesOf {i : Nat} (h : mT m k f n rows w) (hi : i < rows.length) : bm_Call bm_pg (d + 1) y_X12_casesOf [bm_r (some m), bm_i (k : Int), bm_i (i : Int)] w Φ ↔ Φ (.inl (some (bm_i (y_cs (rows.getD i y_r0).1)))) w := by
  obtain ⟨a1, a2, a3⟩ := h.lk hi
  obtain ⟨S, hk, h22, hf, h14, h1, h3, b1, b2, b3, b4⟩ := h
  exact bm_ans (fun Ψ q => mm_casesOf S hk (by omega) h22 hf (by rw [a2]; exact h14) (by omega) (by intro c hc; exact a1.1 c hc) a3 q)
theorem mT.cases (h : mT m k f n rows w) : bm_Call bm_pg (d + 2) y_X12_cases [bm_r (some m), bm_i (k : Int)] w Φ ↔ Φ (.inl (some (bm_i (y_ct rows)))) w := by
  obtain ⟨S, hk, h22, hf, h14, h1, h3, b1, b2, b3, b4⟩ := h
  exact bm_ans (fun Ψ q => mm_cases S hk h22 hf h14 h3 b1 b2 b4 (by omega) q)
/-- the row of a case is sought -/
theorem mm_rowAt5 {index : Int} (h : mT m k f n rows w) : ∀ (l : List y_rw) (left : Int) (i : Nat), rows.drop i = l → 0 ≤ left → left < y_ct l → left < 2147483648 → (s_at rows index).1 = i + (s_at l left).1 → Φ (.inl (some (bm_i ((s_at rows index).1 : Int)))) w → bk_X12_rowAt_5 (d + 1) Φ m (k : Int) left (i : Int) w
  | [], left, i, hd, h0, h1, _, _, _ => by simp [y_ct] at h1; omega
  | R :: l, left, i, hd, h0, h1, h2, he, hq => by
    obtain ⟨d1, d2, d3⟩ := q_drp (z := y_r0) hd
    have r12 : rows.length ≤ 12 := h.2.2.2.2.2.2.2.2.1
    have lk := h.lk d1
    have cs := y_cs_3 lk.2.2 (by rw [lk.2.1]; exact h.2.2.2.2.2.2.1)
    rw [← d2] at cs
    have e : y_ct (R :: l) = y_cs R.1 + y_ct l := rfl
    refine vb_X12_rowAt_5 ?_
    simp only [h.1.1, true_and, h.casesOf d1, bm_c1_v, ← d2]
    rw [s_at_c] at he
    by_cases c : left < y_cs R.1
    · rw [if_pos c] at he
      rw [if_pos (by simpa using c)]
      simp only [Nat.add_zero] at he
      rw [he] at hq
      exact hq
    · rw [if_neg c] at he
      rw [if_neg (by simpa using c), q_wI ⟨by omega, by omega⟩, bm_w1 (show i < 2147483647 by omega)]
      simp only at he
      exact mm_rowAt5 h l (left - y_cs R.1) (i + 1) d3 (by omega) (by omega) (by omega) (by omega) hq
theorem mm_rowAt {index : Int} (h : mT m k f n rows w) (h0 : 0 ≤ index) (h1 : index < y_ct rows) : bm_Call bm_pg (d + 2) y_X12_rowAt [bm_r (some m), bm_i (k : Int), bm_i index] w Φ ↔ Φ (.inl (some (bm_i ((s_at rows index).1 : Int)))) w := by
  have b := h.2.2.2.2.2.2.2.2.2.1
  exact bm_ans (fun Ψ q => vc_X12_rowAt (mm_rowAt5 (index := index) h rows index 0 rfl h0 h1 (by omega) (by omega) q))
/-- the inputs of a case -/
theorem mm_case53 (hr : r < rows.length) : ∀ (i : Nat) (kk left : Int) (w : bm_W), mT m k f n rows w → 0 ≤ kk → kk < 100000 → i ≤ n → (0 < i → left = kk / s_rep (rows.getD r y_r0).1 (i - 1)) → (∀ w', q_fr (fun b => b = m + 31) w w' → (∀ j, j < i → bm_gi w' (m + 31) j = s_val (rows.getD r y_r0).1 kk j) → (∀ j, i ≤ j → bm_gi w' (m + 31) j = bm_gi w (m + 31) j) → Φ (.inl (some (bm_r (some (m + 31))))) w') → bk_X12_caseInputs_53 d Φ m (k : Int) left (r : Int) (m + 31) ((i : Int) - 1) w
  | 0, kk, left, w, h, h0, h1, hn, hl, hq => by
    refine vb_X12_caseInputs_53 ?_
    rw [if_pos (by decide)]
    exact hq w q_fr.rf (fun j hj => by omega) (fun j _ => rfl)
  | i + 1, kk, left, w, h, h0, h1, hn, hl, hq => by
    have S := h.1
    have hk := h.2.1
    have n3 := h.2.2.2.2.2.2.1
    have r12 : rows.length ≤ 12 := h.2.2.2.2.2.2.2.2.1
    obtain ⟨c1, c2, lk⟩ := h.lk hr
    have cc := c1.1 i (by omega)
    generalize hL : (rows.getD r y_r0).1 = L at c2 lk cc hl hq
    have nn := s_n_rng lk i
    have fl := lk i (by omega)
    have hl' := hl (Nat.succ_pos _)
    simp only [Nat.add_sub_cancel] at hl'
    have rp : 1 ≤ s_rep L i := by
      unfold s_rep
      have n1 := (s_n_rng lk 1).1
      have n2 := (s_n_rng lk 2).1
      split
      · have := Int.mul_le_mul n2 n1 (by decide) (by omega); omega
      · split <;> omega
    have l0 : 0 ≤ left := by rw [hl']; exact Int.ediv_nonneg h0 (by omega)
    have lk2 : left ≤ kk := by rw [hl']; exact Int.ediv_le_self _ h0
    have v := s_val_rng (k := kk) (i := i) lk
    have ve : s_val L kk i = (L.getD i (0, 0)).1 + left % s_n L i := by
      unfold s_val
      rw [hl']
    have m1 := Int.emod_nonneg left (show s_n L i ≠ 0 by omega)
    have m2 := Int.emod_lt_of_pos left (show 0 < s_n L i by omega)
    have d1 : 0 ≤ left / s_n L i := Int.ediv_nonneg l0 (by omega)
    have d2 : left / s_n L i ≤ left := Int.ediv_le_self _ l0
    have wd : bm_w (bm_w ((L.getD i (0, 0)).2 - (L.getD i (0, 0)).1) + 1) = s_n L i := by
      rw [q_wI (x := (L.getD i (0, 0)).2 - (L.getD i (0, 0)).1) ⟨by omega, by omega⟩, q_wI ⟨by omega, by omega⟩]
      rfl
    have ei : ((i + 1 : Nat) : Int) - 1 = (i : Int) := by omega
    have e3 : (i : Int) + -1 = (i : Int) - 1 := by omega
    refine vb_X12_caseInputs_53 ?_
    rw [ei, if_neg (by simp)]
    simp only [bm_c0_v, bm_c1_v, bm_c2_v, bm_c3_v, bm_c4_v, bm_c5_v, bm_u_some, decide_eq_true_eq, true_and, and_true, and_self, Bool.not_eq_true, Bool.not_eq_true', decide_eq_false_iff_not, if_true, if_false, ite_true, ite_false, eq_self, S.1, S.g32, S.t32, S.n32, S.g33, S.t33, S.n33, S.g42, S.t42, S.n42, bm_w12 hk, bm_wN (show 12 * k + r < 2147483648 by omega), bm_wM3 (show 12 * k + r < 1000 by omega), bm_wN (show (12 * k + r) * 3 + i < 2147483648 by omega), bm_in, Int.toNat_natCast, cc.1, cc.2, wd, Int.tmod_eq_emod_of_nonneg l0, Int.tdiv_eq_ediv_of_nonneg l0, q_wI (x := left % s_n L i) ⟨by omega, by omega⟩, q_wI (x := left / s_n L i) ⟨by omega, by omega⟩, q_wI (x := (i : Int) + (-1)) ⟨by omega, by omega⟩]
    rw [← ve, q_wI (x := s_val L kk i) ⟨by omega, by omega⟩, e3]
    have h2 : mT m k f n rows (bm_si w (m + 31) i (s_val L kk i)) := h.mv S (fun a j ha => ⟨q_gi_ne (by omega), rfl⟩)
    refine ⟨by omega, by omega, by omega, by omega, by omega, by omega, ?_⟩
    refine mm_case53 hr i kk _ _ h2 h0 h1 (by omega) (fun ip => ?_) (fun w' F g1 g2 => hq w' ((q_fr.rf.si (A := fun b => b = m + 31) rfl).tr F) (fun j hj => ?_) (fun j hj => ?_))
    · rw [hl', Int.ediv_ediv_of_nonneg (by omega), hL]
      have := s_rep_s (l := L) (i := i - 1) (by omega)
      rw [show i - 1 + 1 = i by omega] at this
      rw [this]
    · rw [hL] at g1
      rcases Nat.lt_or_ge j i with z | z
      · exact g1 j z
      · rw [show j = i by omega, g2 i (Nat.le_refl _), q_gi_eq]
    · rw [g2 j (by omega), q_gi_nk (by omega)]
theorem mm_case5 {index : Int} (h : mT m k f n rows w) (h0 : 0 ≤ (s_at rows index).2) (hr : (s_at rows index).1 < rows.length) (hc : (s_at rows index).2 < 100000) (hq : ∀ w', q_fr (fun b => b = m + 31) w w' → (∀ j, j < n → bm_gi w' (m + 31) j = s_val (rows.getD (s_at rows index).1 y_r0).1 (s_at rows index).2 j) → Φ (.inl (some (bm_r (some (m + 31))))) w') : ∀ (l : List y_rw) (left : Int) (i : Nat), rows.drop i = l → 0 ≤ left → left < y_ct l → left < 2147483648 → (s_at rows index).1 = i + (s_at l left).1 → (s_at rows index).2 = (s_at l left).2 → bk_X12_caseInputs_5 (d + 1) Φ m (k : Int) left (i : Int) w
  | [], left, i, hd, h0', h1, _, _, _ => by simp [y_ct] at h1; omega
  | R :: l, left, i, hd, h0', h1, h2, he, he2 => by
    obtain ⟨d1, d2, d3⟩ := q_drp (z := y_r0) hd
    have r12 : rows.length ≤ 12 := h.2.2.2.2.2.2.2.2.1
    have lk := h.lk d1
    have cs := y_cs_3 lk.2.2 (by rw [lk.2.1]; exact h.2.2.2.2.2.2.1)
    rw [← d2] at cs
    have e : y_ct (R :: l) = y_cs R.1 + y_ct l := rfl
    refine vb_X12_caseInputs_5 ?_
    simp only [h.1.1, true_and, h.casesOf d1, bm_c1_v, ← d2]
    rw [s_at_c] at he he2
    by_cases c : left < y_cs R.1
    · rw [if_pos c] at he he2
      rw [if_pos (by simpa using c)]
      simp only [Nat.add_zero] at he he2
      have S := h.1
      have hf := h.2.2.2.1
      simp only [bm_c0_v, bm_c1_v, bm_c2_v, bm_c3_v, bm_c4_v, bm_c5_v, bm_u_some, decide_eq_true_eq, true_and, and_true, and_self, Bool.not_eq_true, Bool.not_eq_true', decide_eq_false_iff_not, if_true, if_false, ite_true, ite_false, eq_self, S.1, S.g42, S.t42, S.n42, S.g20, S.t20, S.n20, S.g30, S.t30, S.n30, bm_in, Int.toNat_natCast, h.2.2.1, h.2.2.2.2.1, q_wI (x := (n : Int) - 1) ⟨by have := h.2.2.2.2.2.1; omega, by have := h.2.2.2.2.2.2.1; omega⟩]
      have hk := h.2.1
      refine ⟨by omega, by omega, ?_⟩
      have n1 := h.2.2.2.2.2.1
      have n3 := h.2.2.2.2.2.2.1
      rw [← he, ← he2]
      refine mm_case53 hr n (s_at rows index).2 _ w h h0 hc (Nat.le_refl _) (fun _ => ?_) (fun w' F g1 g2 => hq w' F g1)
      have lr := h.lk hr
      have := s_rep_e lr.2.2 (by rw [lr.2.1]; exact n1) (by rw [lr.2.1]; exact n3)
      rw [lr.2.1] at this
      rw [this, Int.ediv_one]
    · rw [if_neg c] at he he2
      rw [if_neg (by simpa using c), q_wI ⟨by omega, by omega⟩, bm_w1 (show i < 2147483647 by omega)]
      simp only at he he2
      exact mm_case5 h h0 hr hc hq l (left - y_cs R.1) (i + 1) d3 (by omega) (by omega) (by omega) (by omega) he2
theorem mm_caseInputs {index : Int} (h : mT m k f n rows w) (h0 : 0 ≤ index) (h1 : index < y_ct rows) (hq : ∀ w', q_fr (fun b => b = m + 31) w w' → (∀ j, j < n → bm_gi w' (m + 31) j = s_val (rows.getD (s_at rows index).1 y_r0).1 (s_at rows index).2 j) → Φ (.inl (some (bm_r (some (m + 31))))) w') : bm_Call bm_pg (d + 2) y_X12_caseInputs [bm_r (some m), bm_i (k : Int), bm_i index] w Φ := by
  have b := h.2.2.2.2.2.2.2.2.2.1
  have sa := s_at_rng rows index h0 h1
  have lk := h.lk sa.1
  have cs := y_cs_3 lk.2.2 (by rw [lk.2.1]; exact h.2.2.2.2.2.2.1)
  exact vc_X12_caseInputs (mm_case5 (index := index) h sa.2.1 sa.1 (by omega) hq rows index 0 rfl h0 h1 (by omega) (by omega) rfl)
end MV
