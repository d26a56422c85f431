/-! ===== all pairs that are tried, in the model ===== -/
theorem s_val_no {l : List (Int × Int)} {k : Int} {i : Nat} (h : y_lk l) (hi : l.length ≤ i) : s_val l k i = 0 := by
  have v := s_val_rng (k := k) (i := i) h
  have e : l.getD i (0, 0) = (0, 0) := by rw [List.getD_eq_getElem?_getD, List.getElem?_eq_none hi]; rfl
  rw [e] at v
  simp only at v
  omega
section MA
variable {d m f : Nat} {B : Int → Int} {pr : y_pr} {w : bm_W} {Φ : bm_Rt → bm_W → Prop}
/-- what marking changes -/
def mMk (m : Nat) (w w' : bm_W) : Prop := q_fr (fun a => a = m + 30 ∨ a = m + 31) w w'
theorem mA.mk {w' : bm_W} (h : mA m B pr w) (hf : mMk m w w') : mA m B pr w' := by
  have hf' : q_fr (fun a => a = m + 30 ∨ a = m + 31) w w' := hf
  exact h.mv (h.1.fr hf') (by rw [hf'.sz]; exact h.2.1) (fun a j u v => ⟨hf'.gi (by omega), hf'.gl (by omega)⟩) (hf'.gi (by omega)) (hf'.gi (by omega)) (hf'.gi (by omega))
theorem ma_clear (w : bm_W) (S : sh_Md m w) (hq : ∀ w', q_fr (fun a => a = m + 30) w w' → mTr m (fun _ => false) w' → bk_X12_markAll_26 d Φ m (f : Int) 0 w') : ∀ (rem j : Nat) (w1 : bm_W), j + rem = 6724 → q_fr (fun a => a = m + 30) w w1 → (∀ k, k < j → bm_gi w1 (m + 30) k = 0) → bk_X12_markAll_2 d Φ m (f : Int) (j : Int) w1
  | 0, j, w1, hj, hf, h => by
    have S1 := S.fr hf
    refine vb_X12_markAll_2 ?_
    simp only [bm_c0_v, bm_c1_v, bm_c2_v, bm_c3_v, bm_c4_v, bm_c5_v, bm_u_some, decide_eq_true_eq, true_and, and_true, and_self, Bool.not_eq_true, Bool.not_eq_true', decide_eq_false_iff_not, if_true, if_false, ite_true, ite_false, eq_self, S1.1, S1.g41, S1.t41, S1.n41]
    rw [if_pos (by omega)]
    exact ⟨by decide, hq w1 hf (fun k hk => h k (by omega))⟩
  | rem + 1, j, w1, hj, hf, h => by
    have S1 := S.fr hf
    refine vb_X12_markAll_2 ?_
    simp only [bm_c0_v, bm_c1_v, bm_c2_v, bm_c3_v, bm_c4_v, bm_c5_v, bm_u_some, decide_eq_true_eq, true_and, and_true, and_self, Bool.not_eq_true, Bool.not_eq_true', decide_eq_false_iff_not, if_true, if_false, ite_true, ite_false, eq_self, S1.1, S1.g41, S1.t41, S1.n41, bm_in, Int.toNat_natCast, bm_w1 (show j < 2147483647 by omega)]
    rw [if_neg (by omega)]
    refine ⟨by decide, ⟨by omega, Or.inl trivial⟩, ma_clear w S hq rem (j + 1) _ (by omega) (hf.si rfl) (fun k hk => ?_)⟩
    by_cases z : k = j
    · rw [z, q_gi_eq]
    · rw [q_gi_nk z]; exact h k (by omega)
theorem ma_57 {k : Nat} (hf : f < pr.1.length) (hk : k < pr.2.length) (hkf : (pr.2.getD k y_t0).2.1 = f) (hq : ∀ w', mA m B pr w' → mTr m (u_TT (pr.1.getD f y_f0).2.1.length (fun p x y => u_ts pr f p x y (k + 1))) w' → mMk m w w' → bk_X12_markAll_26 (d + 2) Φ m (f : Int) ((k + 1 : Nat) : Int) w') : ∀ (rem j : Nat) (w1 : bm_W), (j : Int) + rem = y_ct (pr.2.getD k y_t0).2.2 → mA m B pr w1 → mMk m w w1 → mTr m (u_TT (pr.1.getD f y_f0).2.1.length (fun p x y => u_ts pr f p x y k || u_cs (pr.2.getD k y_t0).2.2 p x y j)) w1 → bk_X12_markAll_57 (d + 2) Φ m (f : Int) (k : Int) (y_ct (pr.2.getD k y_t0).2.2) (j : Int) w1
  | 0, j, w1, hj, hA, hF, hT => by
    have T := (hA.tab hk).1
    have k6 := T.2.1
    refine vb_X12_markAll_57 ?_
    rw [if_pos (decide_eq_true (by omega)), bm_w1 (show k < 2147483647 by omega)]
    refine hq w1 hA (hT.ext (fun x _ => u_T_ext (fun p a b => ?_))) hF
    have e : (y_ct (pr.2.getD k y_t0).2.2).toNat = j := by omega
    have cr := u_cs_rs (rows := (pr.2.getD k y_t0).2.2) (fun i hi => ⟨(T.lk hi).2.2, by rw [(T.lk hi).2.1]; exact T.2.2.2.2.2.2.1⟩) p a b
    rw [e] at cr
    rw [cr]
    show _ = (u_ts pr f p a b k || (decide ((pr.2.getD k y_t0).2.1 = f) && u_rs p (pr.2.getD k y_t0).2.2 a b))
    rw [decide_eq_true hkf, Bool.true_and]
  | rem + 1, j, w1, hj, hA, hF, hT => by
    obtain ⟨T, fn, -, -⟩ := hA.tab hk
    have k6 := T.2.1
    have ct := T.2.2.2.2.2.2.2.2.2.1
    have n1 := T.2.2.2.2.2.1
    have n3 := T.2.2.2.2.2.2.1
    have ef : y_tF pr k = pr.1.getD f y_f0 := by unfold y_tF; rw [hkf]
    have sa := s_at_rng (pr.2.getD k y_t0).2.2 (j : Int) (by omega) (by omega)
    have lk := T.lk sa.1
    refine vb_X12_markAll_57 ?_
    rw [if_neg (fun z => by have := of_decide_eq_true z; omega)]
    refine ⟨hA.1.1, mm_caseInputs (d := d) T (by omega) (by omega) (fun w2 F2 g2 => ?_)⟩
    rw [bm_c3_v]
    have F2' : mMk m w1 w2 := F2.mo (fun x hx => Or.inr hx)
    have A2 := hA.mk F2'
    have T2 := (A2.tab hk).1
    have S2 := A2.1
    have hT2 : mTr m (u_TT (pr.1.getD f y_f0).2.1.length (fun p x y => u_ts pr f p x y k || u_cs (pr.2.getD k y_t0).2.2 p x y j)) w2 := fun x hx => (F2.gi (by omega)).trans (hT x hx)
    have h14 := T2.2.2.2.2.1
    rw [hkf] at h14
    have hv : ∀ i, -20 ≤ s_in (pr.2.getD k y_t0).2.2 (j : Int) i ∧ s_in (pr.2.getD k y_t0).2.2 (j : Int) i ≤ 20 := fun i => by
      have := s_val_rng (k := (s_at (pr.2.getD k y_t0).2.2 (j : Int)).2) (i := i) lk.2.2
      exact ⟨this.1, this.2.1⟩
    rw [ef] at n1 n3 g2 h14
    have f6 := hA.2.2.1.2.1
    refine ⟨S2.1, mp_markRow (d := d) (v := s_in (pr.2.getD k y_t0).2.2 (j : Int)) ⟨S2, h14, S2.t42, S2.n42, g2⟩ (by omega) n1 n3 (by omega) hv hT2 (fun w3 F3 T3 => ?_)⟩
    rw [bm_c0_v, bm_w1 (show j < 2147483647 by omega)]
    have F3' : mMk m w2 w3 := F3.mo (fun x hx => Or.inl hx)
    refine ma_57 hf hk hkf hq rem (j + 1) w3 (by omega) (A2.mk F3') ((hF.tr F2').tr F3') (T3.ext (fun x hx => ?_))
    rw [u_mk_T n1 n3 hv (fun z => ?_) hx]
    · refine Eq.trans u_T_or (u_T_ext (fun p a b => ?_))
      show ((u_ts pr f p a b k || u_cs (pr.2.getD k y_t0).2.2 p a b j) || _) = (u_ts pr f p a b k || (u_cs (pr.2.getD k y_t0).2.2 p a b j || _))
      rw [Bool.or_assoc]
    · unfold s_in
      refine s_val_no lk.2.2 ?_
      rw [lk.2.1, ef, z]
      exact Nat.le_refl _
theorem ma_26 (hf : f < pr.1.length) (hq : ∀ w', mA m B pr w' → mTr m (u_TT (pr.1.getD f y_f0).2.1.length (fun p x y => u_ts pr f p x y pr.2.length)) w' → mMk m w w' → Φ (.inl none) w') : ∀ (rem k : Nat) (w1 : bm_W), k + rem = pr.2.length → mA m B pr w1 → mMk m w w1 → mTr m (u_TT (pr.1.getD f y_f0).2.1.length (fun p x y => u_ts pr f p x y k)) w1 → bk_X12_markAll_26 (d + 2) Φ m (f : Int) (k : Int) w1
  | 0, k, w1, hk, hA, hF, hT => by
    have l := hA.2.2.2.1.1
    refine vb_X12_markAll_26 ?_
    simp only [bm_c0_v, bm_c1_v, bm_c2_v, bm_c3_v, bm_c4_v, bm_c5_v, bm_u_some, decide_eq_true_eq, true_and, and_true, and_self, Bool.not_eq_true, Bool.not_eq_true', decide_eq_false_iff_not, if_true, if_false, ite_true, ite_false, eq_self, hA.1.1, l]
    rw [if_pos (by omega)]
    have : k = pr.2.length := by omega
    subst this
    exact hq w1 hA hT hF
  | rem + 1, k, w1, hk, hA, hF, hT => by
    have l := hA.2.2.2.1.1
    have k1 : k < pr.2.length := by omega
    have T := (hA.tab k1).1
    have k6 := T.2.1
    have S := hA.1
    have ct := hA.ct k k1
    refine vb_X12_markAll_26 ?_
    simp only [bm_c0_v, bm_c1_v, bm_c2_v, bm_c3_v, bm_c4_v, bm_c5_v, bm_u_some, decide_eq_true_eq, true_and, and_true, and_self, Bool.not_eq_true, Bool.not_eq_true', decide_eq_false_iff_not, if_true, if_false, ite_true, ite_false, eq_self, S.1, l, S.1, S.g30, S.t30, S.n30, bm_in, Int.toNat_natCast, T.2.2.1, T.cases (d := d)]
    rw [if_neg (by omega)]
    refine ⟨by omega, ?_⟩
    by_cases c : (pr.2.getD k y_t0).2.1 = f
    · rw [if_neg (by omega)]
      exact ma_57 (w := w) hf k1 c (fun w2 A2 T2 F2 => ma_26 hf hq rem (k + 1) w2 (by omega) A2 F2 T2) (y_ct (pr.2.getD k y_t0).2.2).toNat 0 w1 (by omega) hA hF (hT.ext (fun x _ => u_T_ext (fun p a b => (Bool.or_false _).symm)))
    · rw [if_pos (by omega)]
      refine vb_X12_markAll_57 ?_
      rw [if_pos (by decide), bm_w1 (show k < 2147483647 by omega)]
      refine ma_26 hf hq rem (k + 1) w1 (by omega) hA hF (hT.ext (fun x _ => u_T_ext (fun p a b => ?_)))
      show _ = (u_ts pr f p a b k || (decide ((pr.2.getD k y_t0).2.1 = f) && u_rs p (pr.2.getD k y_t0).2.2 a b))
      rw [decide_eq_false c, Bool.false_and, Bool.or_false]
theorem mA.markAll (h : mA m B pr w) (hf : f < pr.1.length) (hq : ∀ w', mA m B pr w' → mTr m (u_TT (pr.1.getD f y_f0).2.1.length (fun p x y => u_ts pr f p x y pr.2.length)) w' → mMk m w w' → Φ (.inl none) w') : bm_Call bm_pg (d + 3) y_X12_markAll [bm_r (some m), bm_i (f : Int)] w Φ := by
  refine vc_X12_markAll (ma_clear (d := d + 2) w h.1 (fun w1 F1 T1 => ?_) 6724 0 w rfl q_fr.rf (fun k hk => by omega))
  have F1' : mMk m w w1 := F1.mo (fun x hx => Or.inl hx)
  refine ma_26 (w := w) hf hq pr.2.length 0 w1 (by omega) (h.mk F1') F1' (T1.ext (fun x _ => ?_))
  unfold u_TT
  show false = (_ && false)
  rw [Bool.and_false]
end MA
