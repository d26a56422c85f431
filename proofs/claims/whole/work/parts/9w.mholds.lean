/-! ===== runs of functions, whether a case holds, in the model ===== -/
/-- what a run changes in the model -/
def mQ (m : Nat) (tr : List (Int × Bool)) (w w' : bm_W) : Prop := q_fr (fun a => a = m ∨ a = m + 28 ∨ a = m + 29 ∨ a = m + 31) w w' ∧ (∀ k, k ≠ 36 → bm_gi w' m k = bm_gi w m k) ∧ (∀ j, bm_gi w' (m + 28) j = q_bump (bm_gi w m 37) true tr (bm_gi w (m + 28)) j) ∧ ∀ j, bm_gi w' (m + 29) j = q_bump (bm_gi w m 37) false tr (bm_gi w (m + 29)) j
/-- whether a row admits what came out -/
def s_ad (R : y_rw) (v : Option Int) : Int := match v with
  | none => if R.2.1 = 15 then 1 else 0
  | some x => if R.2.1 = 15 then 0 else if R.2.1 = 14 ∨ t_rel R.2.1 x R.2.2 then 1 else 0
/-- the inputs of a case -/
def s_in (rows : List y_rw) (index : Int) (i : Nat) : Int := s_val (rows.getD (s_at rows index).1 y_r0).1 (s_at rows index).2 i
section MV
variable {d m k f n g : Nat} {ch : Int} {B : Int → Int} {w : bm_W} {Φ : bm_Rt → bm_W → Prop} {rows : List y_rw} {F : y_fn}
/-- whether case index of a table holds, with a change or none -/
theorem mm_holdsAt {index : Int} (h : mT m k f n rows w) (hF : mfn m B f F w) (hl : q_loc n F.2.2.2.2) (h0 : 0 ≤ index) (h1 : index < y_ct rows)
    (hq : ∀ w', mQ m (F.2.2.2.2 (s_in rows index) ch).2 w w' → Φ (.inl (some (bm_i (s_ad (rows.getD (s_at rows index).1 y_r0) (F.2.2.2.2 (s_in rows index) ch).1)))) w') : bm_Call bm_pg (d + 1202) y_X12_holdsAt [bm_r (some m), bm_i (k : Int), bm_i index, bm_i ch] w Φ := by
  have S := h.1
  have hk := h.2.1
  have hf := h.2.2.2.1
  have n3 := h.2.2.2.2.2.2.1
  have sa := s_at_rng rows index h0 h1
  have r12 : rows.length ≤ 12 := h.2.2.2.2.2.2.2.2.1
  refine vc_X12_holdsAt ?_
  simp only [bm_c0_v, bm_c1_v, bm_c2_v, bm_c3_v, bm_c4_v, bm_c5_v, bm_u_some, decide_eq_true_eq, true_and, and_true, and_self, Bool.not_eq_true, Bool.not_eq_true', decide_eq_false_iff_not, if_true, if_false, ite_true, ite_false, eq_self, S.1, S.1, S.g30, S.t30, S.n30, bm_in, Int.toNat_natCast, h.2.2.1]
  refine ⟨by omega, mm_caseInputs (d := d + 1199) h h0 h1 (fun w1 F1 g1 => ?_)⟩
  rw [bm_c3_v]
  have F1' : mfn m B f F w1 := by
    obtain ⟨a0, a1, a2, a3, a4, a5, a6, nn, a8, a9⟩ := hF
    refine ⟨⟨a0.1, (F1.gl (by omega)).trans a0.2⟩, a1.mv (fun j => ⟨F1.gi (by omega), F1.gl (by omega), F1.gi (by omega), F1.gi (by omega)⟩), a2, (F1.gi (by omega)).trans a3, (F1.gi (by omega)).trans a4, a5, a6, nn, by rw [F1.gi (by omega)]; exact a8, fun w0 k1 k2 k3 => a9 w0 (fun a j u v z => (k1 a j u v z).trans (F1.gi (by omega))) (fun x hx => ⟨(k2 x hx).1.trans (F1.gi (by omega)), (k2 x hx).2.trans (F1.gi (by omega))⟩) k3⟩
  have S1 : sh_Md m w1 := S.fr F1
  have h' : mT m k f n rows w1 := h.mv S1 (fun a j ha => ⟨F1.gi (by omega), F1.gl (by omega)⟩)
  have eD : F.2.2.2.2 (q_abc (bm_gi w1 (m + 31) 0) (bm_gi w1 (m + 31) 1) (bm_gi w1 (m + 31) 2)) ch = F.2.2.2.2 (s_in rows index) ch := hl _ _ ch (fun i hi => by
    rcases (show i = 0 ∨ i = 1 ∨ i = 2 by omega) with rfl | rfl | rfl
    · exact g1 0 hi
    · exact g1 1 hi
    · exact g1 2 hi)
  have q1 : ∀ tr w', md_Q m tr w1 w' → mQ m tr w w' := fun tr w' hh => by
    obtain ⟨e1, e2, -, e3, e4⟩ := hh
    refine ⟨(F1.mo (fun a z => Or.inr (Or.inr (Or.inr z)))).tr (e1.mo (fun a z => by omega)), fun j hj => (e2 j hj).trans (F1.gi (by omega)), fun j => ?_, fun j => ?_⟩
    · rw [e3 j, F1.gi (by omega), show bm_gi w1 (m + 28) = bm_gi w (m + 28) from funext fun j => F1.gi (by omega)]
    · rw [e4 j, F1.gi (by omega), show bm_gi w1 (m + 29) = bm_gi w (m + 29) from funext fun j => F1.gi (by omega)]
  have hm : q_node m w1 (bm_gi w1 (m + 18) f) F.2.2.2.2 (200 * (f + 1)) := by
    obtain ⟨-, -, -, -, -, -, -, nn, -, hm⟩ := F1'
    exact hm w1 (fun _ _ _ _ _ => rfl) (fun _ _ => ⟨rfl, rfl⟩) S1
  have rk2 : (rows.getD (s_at rows index).1 y_r0).2.1 = 14 ∨ (rows.getD (s_at rows index).1 y_r0).2.1 = 15 ∨ (22 ≤ (rows.getD (s_at rows index).1 y_r0).2.1 ∧ (rows.getD (s_at rows index).1 y_r0).2.1 ≤ 27) := (h.2.2.2.2.2.2.2.2.2.2 _ sa.1).2.2.2
  -- what follows a run
  have tail : ∀ (v : Int) (w2 : bm_W), md_Q m (F.2.2.2.2 (s_in rows index) ch).2 w1 w2 → (bm_gi w2 m 36 = 0 ∨ bm_gi w2 m 36 = 1) → (s_ad (rows.getD (s_at rows index).1 y_r0) (F.2.2.2.2 (s_in rows index) ch).1 = if (rows.getD (s_at rows index).1 y_r0).2.1 = 15 then bm_gi w2 m 36 else if bm_gi w2 m 36 = 0 ∧ ((rows.getD (s_at rows index).1 y_r0).2.1 = 14 ∨ t_rel (rows.getD (s_at rows index).1 y_r0).2.1 v (rows.getD (s_at rows index).1 y_r0).2.2) then 1 else 0) → sh_Md m w2 ∧ mT m k f n rows w2 ∧ bm_gi w2 (m + 26) (12 * k + (s_at rows index).1) = t_rs (rows.getD (s_at rows index).1 y_r0).2.1 ∧ bm_gl w2 (m + 27) (12 * k + (s_at rows index).1) = (rows.getD (s_at rows index).1 y_r0).2.2 := fun v w2 Q h36 hs => by
    have S2 : sh_Md m w2 := S1.fr Q.1
    have h2 : mT m k f n rows w2 := h'.mv S2 (fun a j ha => ⟨Q.1.gi (by omega), Q.1.gl (by omega)⟩)
    exact ⟨S2, h2, (h2.lk sa.1).1.2.1, (h2.lk sa.1).1.2.2⟩
  generalize hR : rows.getD (s_at rows index).1 y_r0 = R at rk2 tail hq
  refine ⟨S1.1, mp_run (w0 := w1) (d := d + 1200) S1 hf rfl hm (by omega) q_fr.rf ⟨S1.t42, by rw [S1.n42]; decide⟩ (by omega) (fun v hv w2 Q2 h36 => ?_) (fun hv w2 Q2 h36 => ?_)⟩
  · rw [bm_c2_v]
    rw [eD] at hv Q2
    have es : s_ad R (F.2.2.2.2 (s_in rows index) ch).1 = if R.2.1 = 15 then 0 else if R.2.1 = 14 ∨ t_rel R.2.1 v R.2.2 then 1 else 0 := by unfold s_ad; rw [hv]
    obtain ⟨S2, h2, r26, r27⟩ := tail v w2 Q2 (Or.inl h36) (by rw [es, h36]; simp)
    have hq2 := hq w2 (q1 _ _ Q2)
    rw [es] at hq2
    rcases rk2 with z | z | z
    · have e26 : t_rs R.2.1 = 20 := by unfold t_rs; rw [if_pos z]
      rw [e26] at r26
      rw [if_neg (by omega), if_pos (Or.inl z)] at hq2
      simp only [bm_c0_v, bm_c1_v, bm_c2_v, bm_c3_v, bm_c4_v, bm_c5_v, bm_u_some, decide_eq_true_eq, true_and, and_true, and_self, Bool.not_eq_true, Bool.not_eq_true', decide_eq_false_iff_not, if_true, if_false, ite_true, ite_false, eq_self, S2.1, mm_rowAt (d := d + 1199) h2 h0 h1, bm_c1_v, S2.1, S2.g34, S2.t34, S2.n34, S2.g35, S2.t35, S2.n35, bm_w12 hk, bm_wN (show 12 * k + (s_at rows index).1 < 2147483648 by omega), bm_in, Int.toNat_natCast, r26, r27, h36, mp_holds]
      simp
      exact ⟨by omega, hq2⟩
    · have e26 : t_rs R.2.1 = 21 := by unfold t_rs; rw [if_neg (by omega), if_pos z]
      rw [e26] at r26
      rw [if_pos z] at hq2
      simp only [bm_c0_v, bm_c1_v, bm_c2_v, bm_c3_v, bm_c4_v, bm_c5_v, bm_u_some, decide_eq_true_eq, true_and, and_true, and_self, Bool.not_eq_true, Bool.not_eq_true', decide_eq_false_iff_not, if_true, if_false, ite_true, ite_false, eq_self, S2.1, mm_rowAt (d := d + 1199) h2 h0 h1, bm_c1_v, S2.1, S2.g34, S2.t34, S2.n34, S2.g35, S2.t35, S2.n35, bm_w12 hk, bm_wN (show 12 * k + (s_at rows index).1 < 2147483648 by omega), bm_in, Int.toNat_natCast, r26, r27, h36, mp_holds]
      simp
      exact ⟨by omega, hq2⟩
    · have e26 : t_rs R.2.1 = R.2.1 - 20 := by unfold t_rs; rw [if_neg (by omega), if_neg (by omega)]
      rw [e26] at r26
      rw [if_neg (by omega)] at hq2
      simp only [bm_c0_v, bm_c1_v, bm_c2_v, bm_c3_v, bm_c4_v, bm_c5_v, bm_u_some, decide_eq_true_eq, true_and, and_true, and_self, Bool.not_eq_true, Bool.not_eq_true', decide_eq_false_iff_not, if_true, if_false, ite_true, ite_false, eq_self, S2.1, mm_rowAt (d := d + 1199) h2 h0 h1, bm_c1_v, S2.1, S2.g34, S2.t34, S2.n34, S2.g35, S2.t35, S2.n35, bm_w12 hk, bm_wN (show 12 * k + (s_at rows index).1 < 2147483648 by omega), bm_in, Int.toNat_natCast, r26, r27, h36, mp_holds]
      rw [if_pos (by omega), if_neg (by simp), if_neg (by omega), show R.2.1 - 20 + 20 = R.2.1 by omega]
      refine ⟨by omega, by omega, by omega, ?_⟩
      by_cases c : t_rel R.2.1 v R.2.2
      · rw [if_pos (Or.inr c)] at hq2
        rw [if_pos c, if_neg (by decide)]
        simp
        exact ⟨by omega, hq2⟩
      · rw [if_neg (fun y => y.elim (fun y => by omega) c)] at hq2
        rw [if_neg c, if_pos rfl]
        simp
        exact ⟨by omega, hq2⟩
  · rw [bm_c2_v]
    rw [eD] at hv Q2
    have es : s_ad R (F.2.2.2.2 (s_in rows index) ch).1 = if R.2.1 = 15 then 1 else 0 := by unfold s_ad; rw [hv]
    obtain ⟨S2, h2, r26, r27⟩ := tail 0 w2 Q2 (Or.inr h36) (by rw [es, h36]; simp)
    have hq2 := hq w2 (q1 _ _ Q2)
    rw [es] at hq2
    rcases rk2 with z | z | z
    · have e26 : t_rs R.2.1 = 20 := by unfold t_rs; rw [if_pos z]
      rw [e26] at r26
      rw [if_neg (by omega)] at hq2
      simp only [bm_c0_v, bm_c1_v, bm_c2_v, bm_c3_v, bm_c4_v, bm_c5_v, bm_u_some, decide_eq_true_eq, true_and, and_true, and_self, Bool.not_eq_true, Bool.not_eq_true', decide_eq_false_iff_not, if_true, if_false, ite_true, ite_false, eq_self, S2.1, mm_rowAt (d := d + 1199) h2 h0 h1, bm_c1_v, S2.1, S2.g34, S2.t34, S2.n34, S2.g35, S2.t35, S2.n35, bm_w12 hk, bm_wN (show 12 * k + (s_at rows index).1 < 2147483648 by omega), bm_in, Int.toNat_natCast, r26, r27, h36, mp_holds]
      simp
      exact ⟨by omega, hq2⟩
    · have e26 : t_rs R.2.1 = 21 := by unfold t_rs; rw [if_neg (by omega), if_pos z]
      rw [e26] at r26
      rw [if_pos z] at hq2
      simp only [bm_c0_v, bm_c1_v, bm_c2_v, bm_c3_v, bm_c4_v, bm_c5_v, bm_u_some, decide_eq_true_eq, true_and, and_true, and_self, Bool.not_eq_true, Bool.not_eq_true', decide_eq_false_iff_not, if_true, if_false, ite_true, ite_false, eq_self, S2.1, mm_rowAt (d := d + 1199) h2 h0 h1, bm_c1_v, S2.1, S2.g34, S2.t34, S2.n34, S2.g35, S2.t35, S2.n35, bm_w12 hk, bm_wN (show 12 * k + (s_at rows index).1 < 2147483648 by omega), bm_in, Int.toNat_natCast, r26, r27, h36, mp_holds]
      simp
      exact ⟨by omega, hq2⟩
    · have e26 : t_rs R.2.1 = R.2.1 - 20 := by unfold t_rs; rw [if_neg (by omega), if_neg (by omega)]
      rw [e26] at r26
      rw [if_neg (by omega)] at hq2
      simp only [bm_c0_v, bm_c1_v, bm_c2_v, bm_c3_v, bm_c4_v, bm_c5_v, bm_u_some, decide_eq_true_eq, true_and, and_true, and_self, Bool.not_eq_true, Bool.not_eq_true', decide_eq_false_iff_not, if_true, if_false, ite_true, ite_false, eq_self, S2.1, mm_rowAt (d := d + 1199) h2 h0 h1, bm_c1_v, S2.1, S2.g34, S2.t34, S2.n34, S2.g35, S2.t35, S2.n35, bm_w12 hk, bm_wN (show 12 * k + (s_at rows index).1 < 2147483648 by omega), bm_in, Int.toNat_natCast, r26, r27, h36, mp_holds]
      rw [if_pos (by omega)]
      simp
      exact ⟨by omega, hq2⟩
end MV
