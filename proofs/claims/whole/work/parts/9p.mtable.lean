/-! ===== the model: meaning of tables ===== -/
theorem f_tab_inv {K : Nat → Int} {p r : Nat} (h : f_tab K (false, p + 1) = (false, r)) : ∃ q : Nat, K (p + 1) = 3 ∧ K (p + 2) = 13 ∧ K (p + 3) = 3 ∧ K (p + 4) = 20 ∧ f_rws K f_T (false, p + 5) = (false, q) ∧ K q = 19 ∧ r = q + 1 := by
  have e0 : f_tab K (false, p + 1) = f_x K 19 (f_rws K f_T (f_x K 20 (f_x K 3 (f_x K 13 (f_x K 3 (false, p + 1)))))) := rfl
  rw [e0] at h
  have h1 := f_x_ok (k := 19) (by rw [h])
  have h5 : (f_x K 20 (f_x K 3 (f_x K 13 (f_x K 3 (false, p + 1))))).1 = false := by
    cases c : f_x K 20 (f_x K 3 (f_x K 13 (f_x K 3 (false, p + 1)))) with
    | mk b v =>
      cases b with
      | false => rfl
      | true =>
        rw [c, f_rws_d] at h1
        have := h1.1
        injection this with z _
  have a4 := f_x_ok h5
  have a3 := f_x_ok (k := 3) (s := f_x K 13 (f_x K 3 (false, p + 1))) (by rw [a4.1])
  have a2 := f_x_ok (k := 13) (s := f_x K 3 (false, p + 1)) (by rw [a3.1])
  have a1 := f_x_ok (k := 3) (s := (false, p + 1)) (by rw [a2.1])
  rw [a1.2.2] at a2
  simp only at a1 a2
  rw [a1.2.2, a2.2.2] at a3
  simp only at a3
  rw [a1.2.2, a2.2.2, a3.2.2] at a4
  simp only at a4
  rw [a1.2.2, a2.2.2, a3.2.2, a4.2.2] at h1 h
  refine ⟨_, a1.2.1, a2.2.1, a3.2.1, a4.2.1, h1.1, h1.2.1, ?_⟩
  rw [h1.2.2] at h
  exact (congrArg Prod.snd h).symm
section MN
variable {d m N p q f k : Nat} {B : Int → Int} {w w0 w' : bm_W} {Φ : bm_Rt → bm_W → Prop} {ins : List y_in} {rows : List y_rw} {pr : y_pr}
theorem mm_116 {pn : Nat} (h28 : bm_gi w0 m 28 = (k : Int)) (hk : k < 6) (h22 : bm_gi w0 (m + 22) k = (f : Int)) (hf6 : f < 6) (hr : y_fk ins) (hpn : pn ≤ N) (kpn : t_K B pn = 3) : ∀ (n : Nat) (rows : List y_rw) (p : Nat) (w : bm_W), md_Z m B N w → mR m k 0 w0 w → bm_gi w m 3 = bm_gi w0 m 3 → bm_gi w m 9 = (p : Int) → p + 1 ≤ N → mip m B f ins w → mrs m k ins.length rows w → f_rws (t_K B) n (false, p + 1) = (false, q) →
    (∀ er w', y_rws (t_K B) (t_V B) ins n rows (p + 1) = .inl er → mR m k 0 w0 w' → er.1 ≠ 0 → bm_gi w' m 3 = t_P B er.2 → Φ (.inl (some (bm_i er.1))) w') →
    (∀ rows' w', y_rws (t_K B) (t_V B) ins n rows (p + 1) = .inr rows' → md_Z m B N w' → mR m k 0 w0 w' → bm_gi w' m 3 = bm_gi w0 m 3 → bm_gi w' m 9 = (q : Int) → q ≤ N → mrs m k ins.length rows' w' → Φ (.inl (some (bm_i 0))) (bm_si (bm_sq w' (m + 21) k (t_nm B pn)) m 28 ((k + 1 : Nat) : Int))) → bk_X12_table_116 (d + 10) Φ m (pn : Int) w
  | 0, rows, p, w, _, _, _, _, _, _, _, hf, _, _ => by cases hf
  | n + 1, rows, p, w, h, hR, h03, h9, hp, hi, hrs, hf, qE, qC => by
    have N5 := h.2.2.1
    have Z0 := h.at9 (v := ((p + 1 : Nat) : Int))
    have R0 := hR.at (j := 9) (v := ((p + 1 : Nat) : Int)) (Or.inr rfl)
    have e9 : bm_gi (bm_si w m 9 ((p + 1 : Nat) : Int)) m 9 = ((p + 1 : Nat) : Int) := q_gi_eq
    have hi0 : mip m B f ins (bm_si w m 9 ((p + 1 : Nat) : Int)) := hi.mv (fun j => ⟨q_gi_ne (by omega), rfl, q_gi_ne (by omega), q_gi_ne (by omega)⟩)
    have hrs0 : mrs m k ins.length rows (bm_si w m 9 ((p + 1 : Nat) : Int)) := by
      obtain ⟨b1, b2, b3, b4⟩ := hrs
      refine ⟨(q_gi_ne (by omega)).trans b1, b2, b3, fun i hi1 => ⟨?_, (b4 i hi1).2⟩⟩
      obtain ⟨c1, c2, c3⟩ := (b4 i hi1).1
      refine ⟨fun c hc => ?_, (q_gi_ne (by omega)).trans c2, c3⟩
      rw [q_gi_ne (by omega), q_gi_ne (by omega)]
      exact c1 c hc
    cases hc1 : f_row (t_K B) (false, p + 1) with
    | mk bb q1 =>
      cases bb with
      | true => rw [f_rws_x hc1] at hf; cases hf
      | false =>
        have rg := f_far_row (K := t_K B) h.2.2.2.2 (false, p + 1) hp
        rw [hc1] at rg
        have q1N : q1 ≤ N := rg.2.1
        refine vb_X12_table_116 ?_
        simp only [h.1.1.1, true_and, h9, bm_w1 (show p < 2147483647 by omega), Z0.1.1.1]
        refine mm_row (d := d) Z0 e9 hp ((R0.2.1 28 (by decide) (by decide)).trans h28) hk ((R0.1.gi (by omega)).trans h22) hf6 hi0 hr hrs0 hc1 (fun v w1 R1 a1 => ?_)
        rw [bm_c1_v]
        have e0 := y_rws_s (K := t_K B) (V := t_V B) (n := n) (p := p + 1) (rows := rows) (ins := ins)
        have R2 := R0.tr R1 (Nat.zero_le _)
        have Z1 := Z0.mR R1
        cases hE : y_row (t_K B) (t_V B) ins rows (p + 1) with
        | inl er =>
          rw [hE] at a1
          rw [hE, y_b_inl] at e0
          obtain ⟨b1, b2, b3⟩ := a1
          rw [if_neg (by simpa using (show ¬ v = 0 by omega)), b1]
          exact qE er w1 e0 R2 b2 b3
        | inr rows1 =>
          rw [hE] at a1
          rw [hE, y_b_inr, hc1] at e0
          obtain ⟨b1, b0, b2, b3⟩ := a1
          have z3 : bm_gi w1 m 3 = bm_gi w0 m 3 := b0.trans ((q_gi_nk (by decide)).trans h03)
          rw [if_pos (by simpa using b1)]
          have k13 : t_kc 13 = 21 := rfl
          refine ⟨Z1.1.1.1, ?_⟩
          rw [mp_sees (d := d + 4) Z1 b2 q1N (by decide) (by decide), bm_c1_v, k13]
          by_cases k' : t_K B q1 = 21
          · rw [f_rws_t hc1 k' (by omega)] at hf
            have e1 : y_rt (t_K B) (t_V B) ins n rows1 (false, q1) = y_rws (t_K B) (t_V B) ins n rows1 (q1 + 1) := if_pos ⟨rfl, by show q1 < 1501; omega, by simp only; omega, by simp only; omega⟩
            rw [e1] at e0
            rw [if_pos k', if_pos (by decide)]
            exact mm_116 h28 hk h22 hf6 hr hpn kpn n rows1 q1 w1 Z1 R2 z3 b2 (h.nx q1N (by omega)) (hi0.mR R1) b3 hf (fun er w' z => qE er w' (e0.trans z)) (fun l2 w' z => qC l2 w' (e0.trans z))
          · rw [f_rws_f hc1 k'] at hf
            have qq : q1 = q := congrArg Prod.snd hf
            subst qq
            have e1 : y_rt (t_K B) (t_V B) ins n rows1 (false, q1) = .inr rows1 := if_neg (fun z => k' (by have := z.2.2; simp only at this; omega))
            rw [e1] at e0
            rw [if_neg k', if_neg (by decide)]
            have nmo : ∀ Ψ, bm_Call bm_pg (d + 10) y_X12_nameOf [bm_r (some m), bm_i (pn : Int)] w1 Ψ ↔ Ψ (.inl (some (bm_l (t_nm B pn)))) w1 := fun Ψ => mp_nameOf Z1 hpn (by omega)
            have g28 : bm_gi w1 m 28 = (k : Int) := (R2.2.1 28 (by decide) (by decide)).trans h28
            have S1 := Z1.1.1
            have S2 : sh_Md m (bm_sq w1 (m + 21) k (t_nm B pn)) := S1
            have g28' : bm_gi (bm_sq w1 (m + 21) k (t_nm B pn)) m 28 = (k : Int) := g28
            simp only [bm_c0_v, bm_c1_v, bm_c2_v, bm_c3_v, bm_c4_v, bm_c5_v, bm_u_some, decide_eq_true_eq, true_and, and_true, and_self, Bool.not_eq_true, Bool.not_eq_true', decide_eq_false_iff_not, if_true, if_false, ite_true, ite_false, eq_self, S1.1, S1.1, S1.g29, S1.t29, S1.n29, nmo, bm_c2_v, g28, Int.toNat_natCast, bm_in, S2.1, g28', bm_w1 (show k < 2147483647 by omega)]
            exact ⟨by omega, qC rows1 w1 e0 Z1 R2 z3 b2 q1N b3⟩
theorem mtb.mv {B : Int → Int} {fs : List y_fn} {Tb : y_tb} {k' : Nat} (h : mtb m B fs k' Tb w) (hk : k' < k) (hR : mR m k 0 w w') (hn : (fs.getD Tb.2.1 y_f0).2.1.length ≤ 3) : mtb m B fs k' Tb w' := by
  obtain ⟨⟨a0, a1⟩, a2, a3, b1, b2, b3, b4⟩ := h
  refine ⟨⟨a0, (hR.1.gl (by omega)).trans a1⟩, (hR.1.gi (by omega)).trans a2, a3, (hR.2.2.1 _ (by omega)).trans b1, b2, b3, fun i hi => ⟨?_, (b4 i hi).2⟩⟩
  obtain ⟨c1, c2, c3⟩ := (b4 i hi).1
  have l3 := (b4 i hi).2.1
  refine ⟨fun c hc => ?_, (hR.2.2.2.2 _ (by omega)).1.trans c2, (hR.2.2.2.2 _ (by omega)).2.trans c3⟩
  rw [(hR.2.2.2.1 _ (by omega)).1, (hR.2.2.2.1 _ (by omega)).2]
  exact c1 c hc
end MN
