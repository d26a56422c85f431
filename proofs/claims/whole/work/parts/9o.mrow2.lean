/-! ===== the model: meaning of rows, from their first cell on ===== -/
theorem f_res_ok {K : Nat → Int} {s : Bool × Nat} (h : (f_res K s).1 = false) : s.1 = false := by
  cases s with
  | mk b p =>
    cases b with
    | false => rfl
    | true => rw [f_res_d] at h; cases h
theorem f_row_inv {K : Nat → Int} {p q : Nat} (h : f_row K (false, p) = (false, q)) : ∃ c, f_cls K f_T (false, p) = (false, c) ∧ K c = 20 ∧ f_res K (false, c + 1) = (false, q) := by
  have e : f_row K (false, p) = f_res K (f_x K 20 (f_cls K f_T (false, p))) := rfl
  rw [e] at h
  have h1 := f_x_ok (f_res_ok (by rw [h]))
  rw [h1.2.2] at h
  exact ⟨_, h1.1, h1.2.1, h⟩
section MN
variable {d m N p q f k : Nat} {B : Int → Int} {w w0 : bm_W} {Φ : bm_Rt → bm_W → Prop} {ins : List y_in} {rows : List y_rw} {l : List (Int × Int)}
theorem mip.mR {i : Nat} {w' : bm_W} {g : Nat} (h : mip m B g ins w) (hR : mR m k i w w') : mip m B g ins w' := h.mv (fun j => ⟨hR.1.gi (by omega), hR.1.gl (by omega), hR.1.gi (by omega), hR.1.gi (by omega)⟩)
theorem mm_44 {p0 : Nat} (h28 : bm_gi w0 m 28 = (k : Int)) (hk : k < 6) (hf6 : f < 6) (hr12 : rows.length < 12) (hr : y_fk ins) : ∀ (n : Nat) (l : List (Int × Int)) (c p : Nat) (w : bm_W), md_Z m B N w → mC m ((12 * k + rows.length) * 3) w0 w → bm_gi w m 3 = bm_gi w0 m 3 → bm_gi w m 9 = (p : Int) → p ≤ N → mip m B f ins w → (c ≤ ins.length → l.length = c) → (ins.length ≤ c → l.length = ins.length) → y_lk l → (∀ j, j < l.length → bm_gi w (m + 24) ((12 * k + rows.length) * 3 + j) = (l.getD j (0, 0)).1 ∧ bm_gi w (m + 25) ((12 * k + rows.length) * 3 + j) = (l.getD j (0, 0)).2) → c + n ≤ 1600 → f_cls (t_K B) n (false, p) = (false, q) →
    (∀ er w', y_cls (t_K B) (t_V B) ins n l c p = .inl er → mC m ((12 * k + rows.length) * 3) w0 w' → er.1 ≠ 0 → bm_gi w' m 3 = t_P B er.2 → Φ (.inl (some (bm_i er.1))) w') →
    (∀ l' c' w', y_cls (t_K B) (t_V B) ins n l c p = .inr (l', c') → md_Z m B N w' → mC m ((12 * k + rows.length) * 3) w0 w' → bm_gi w' m 3 = bm_gi w0 m 3 → bm_gi w' m 9 = (q : Int) → q ≤ N → (c' = ins.length → l'.length = ins.length) → y_lk l' → (∀ j, j < l'.length → bm_gi w' (m + 24) ((12 * k + rows.length) * 3 + j) = (l'.getD j (0, 0)).1 ∧ bm_gi w' (m + 25) ((12 * k + rows.length) * 3 + j) = (l'.getD j (0, 0)).2) → bk_X12_row_44 (d + 9) Φ m (p0 : Int) (f : Int) (rows.length : Int) (c' : Int) 0 w') → bk_X12_row_44 (d + 9) Φ m (p0 : Int) (f : Int) (rows.length : Int) (c : Int) 1 w
  | 0, l, c, p, w, _, _, _, _, _, _, _, _, _, _, _, hf, _, _ => by cases hf
  | n + 1, l, c, p, w, h, hR, h03, h9, hp, hi, hl1, hl2, hlk, hst, hcn, hf, qE, qC => by
    have N5 := h.2.2.1
    have g28 : bm_gi w m 28 = (k : Int) := (hR.2.1 28 (by decide) (by decide)).trans h28
    have hi3 := hi.2.1
    cases hc1 : f_cel (t_K B) (false, p) with
    | mk bb q1 =>
      cases bb with
      | true => rw [f_cls_x hc1] at hf; cases hf
      | false =>
        have rg := f_far_cel (K := t_K B) h.2.2.2.2 (false, p) hp
        rw [hc1] at rg
        refine vb_X12_row_44 ?_
        rw [if_neg (by decide)]
        simp only [h.1.1.1, true_and, g28, bm_w12 hk, bm_wN (show 12 * k + rows.length < 2147483648 by omega), bm_wM3 (show 12 * k + rows.length < 1000 by omega), bm_w1 (show c < 2147483647 by omega)]
        refine mm_cell (d := d) h h9 hp hi hf6 (by omega) (by omega) hr hc1 (fun v w1 C1 a1 => ?_)
        rw [bm_c1_v]
        have e0 := y_cls_s (K := t_K B) (V := t_V B) (n := n) (p := p) (c := c) (l := l) (ins := ins)
        have R1 := hR.tr C1 (by omega)
        have Z1 := h.mC C1
        cases hE : y_cel (t_K B) (t_V B) ins c p with
        | inl er =>
          rw [hE] at a1
          rw [hE, y_b_inl] at e0
          obtain ⟨b1, b2, b3⟩ := a1
          rw [if_neg (by simpa using (show ¬ v = 0 by omega)), b1]
          exact qE er w1 e0 R1 b2 b3
        | inr l1 =>
          rw [hE] at a1
          rw [hE, y_b_inr, hc1] at e0
          obtain ⟨b1, b0, b2, b3, b4⟩ := a1
          rw [if_pos (by simpa using b1)]
          have k12 : t_kc 12 = 18 := rfl
          have q1N : q1 ≤ N := rg.2.1
          -- what is kept of cells
          have L1 : c + 1 ≤ ins.length → (l ++ l1).length = c + 1 := fun z => by
            obtain ⟨r, r1, -⟩ := b3 (by omega)
            rw [r1, List.length_append, hl1 (by omega)]; rfl
          have L2 : ins.length ≤ c + 1 → (l ++ l1).length = ins.length := fun z => by
            rcases Nat.lt_or_ge c ins.length with y | y
            · rw [L1 (by omega)]; omega
            · rw [b4 y, List.append_nil]; exact hl2 y
          have L3 : y_lk (l ++ l1) ∧ ∀ j, j < (l ++ l1).length → bm_gi w1 (m + 24) ((12 * k + rows.length) * 3 + j) = ((l ++ l1).getD j (0, 0)).1 ∧ bm_gi w1 (m + 25) ((12 * k + rows.length) * 3 + j) = ((l ++ l1).getD j (0, 0)).2 := by
            rcases Nat.lt_or_ge c ins.length with y | y
            · obtain ⟨r, r1, r2, r3⟩ := b3 y
              subst r1
              have lc := hl1 (by omega)
              refine ⟨fun j hj => ?_, fun j hj => ?_⟩
              · rw [List.length_append, List.length_singleton] at hj
                by_cases z : j = l.length
                · rw [q_gde z]; exact r2
                · rw [q_gdl (by omega)]; exact hlk j (by omega)
              · rw [List.length_append, List.length_singleton] at hj
                by_cases z : j = l.length
                · rw [q_gde z, z, lc]; exact r3
                · rw [q_gdl (by omega), (C1.2.2 _ (by omega)).1, (C1.2.2 _ (by omega)).2]; exact hst j (by omega)
            · rw [b4 y, List.append_nil]
              have ll := hl2 y
              exact ⟨hlk, fun j hj => by rw [(C1.2.2 _ (by omega)).1, (C1.2.2 _ (by omega)).2]; exact hst j hj⟩
          refine ⟨Z1.1.1.1, mm_takes (d := d + 2) Z1 b2 q1N (by decide) (by decide) (fun k' => ?_) (fun k' k2 => ?_)⟩
          · rw [k12] at k'
            rw [f_cls_f hc1 k'] at hf
            have qq : q1 = q := congrArg Prod.snd hf
            subst qq
            have e1 : y_ct1 (t_K B) (t_V B) ins n (l ++ l1) (c + 1) (false, q1) = .inr (l ++ l1, c + 1) := if_neg (fun z => k' (by have := z.2.2; simp only at this; omega))
            rw [e1] at e0
            rw [bm_c1_v]
            exact qC _ _ w1 e0 Z1 R1 (b0.trans h03) b2 q1N (fun z => L2 (by omega)) L3.1 L3.2
          · rw [k12] at k'
            rw [f_cls_t hc1 k' (by omega)] at hf
            have e1 : y_ct1 (t_K B) (t_V B) ins n (l ++ l1) (c + 1) (false, q1) = y_cls (t_K B) (t_V B) ins n (l ++ l1) (c + 1) (q1 + 1) := if_pos ⟨rfl, by show q1 < 1501; omega, by simp only; omega, by simp only; omega⟩
            rw [e1] at e0
            rw [bm_c1_v]
            refine mm_44 h28 hk hf6 hr12 hr n (l ++ l1) (c + 1) (q1 + 1) _ Z1.at9 (R1.at (Or.inr rfl)) ((q_gi_nk (by decide)).trans (b0.trans h03)) q_gi_eq k2 ((hi.mR (mR.of (k := k) (i := rows.length) C1 (by omega))).mv (fun j => ⟨q_gi_ne (by omega), rfl, q_gi_ne (by omega), q_gi_ne (by omega)⟩)) L1 L2 L3.1 (fun j hj => ?_) (by omega) hf (fun er w' z => qE er w' (e0.trans z)) (fun l2 c2 w' z => qC l2 c2 w' (e0.trans z))
            rw [q_gi_ne (by omega), q_gi_ne (by omega)]
            exact L3.2 j hj
theorem mm_row (h : md_Z m B N w) (h9 : bm_gi w m 9 = (p : Int)) (hN : p ≤ N) (h28 : bm_gi w m 28 = (k : Int)) (hk : k < 6) (h22 : bm_gi w (m + 22) k = (f : Int)) (hf6 : f < 6) (hi : mip m B f ins w) (hr : y_fk ins) (hrs : mrs m k ins.length rows w) (hf : f_row (t_K B) (false, p) = (false, q))
    (hq : ∀ v w', mR m k rows.length w w' → ma m w B (y_row (t_K B) (t_V B) ins rows p) v w' (fun rows' => bm_gi w' m 9 = (q : Int) ∧ mrs m k ins.length rows' w') → Φ (.inl (some (bm_i v))) w') : bm_Call bm_pg (d + 10) y_X12_row [bm_r (some m)] w Φ := by
  have N5 := h.2.2.1
  have S := h.1.1
  obtain ⟨qc, c1, c2, c3⟩ := f_row_inv hf
  have b := hrs
  obtain ⟨b1, b2, b3, b4⟩ := b
  unfold y_row at hq
  refine vc_X12_row ?_
  simp only [bm_c0_v, bm_c1_v, bm_c2_v, bm_c3_v, bm_c4_v, bm_c5_v, bm_u_some, decide_eq_true_eq, true_and, and_true, and_self, Bool.not_eq_true, Bool.not_eq_true', decide_eq_false_iff_not, if_true, if_false, ite_true, ite_false, eq_self, S.1, S.1, S.g30, S.t30, S.n30, S.g31, S.t31, S.n31, bm_in, h28, Int.toNat_natCast, h22, b1, h9]
  by_cases c12 : 12 ≤ rows.length
  · rw [if_pos c12] at hq
    rw [if_neg (by omega)]
    refine ⟨by omega, by omega, mm_wrong (d := d + 8) h hN (fun a => ?_)⟩
    rw [bm_c1_v]
    exact hq 4 _ (mR.rf.at (Or.inl rfl)) (ma_wr (by decide) a)
  rw [if_neg c12] at hq
  rw [if_pos (by omega)]
  refine ⟨by omega, by omega, mm_44 (w0 := w) h28 hk hf6 (by omega) hr f_T [] 0 p w h mC.rf rfl h9 hN hi (fun _ => rfl) (fun z => by simp; omega) (fun j hj => by cases hj) (fun j hj => by cases hj) (by decide) c1 (fun er w' z R er0 er3 => ?_) (fun l' c' w' z Z R0 z3 w9 qN hl hlk hst => ?_)⟩
  · rw [z, y_b_inl] at hq
    exact hq er.1 w' (mR.of R (Nat.le_refl _)) ⟨rfl, er0, er3⟩
  · rw [z, y_b_inr, c1] at hq
    have R : mR m k rows.length w w' := mR.of R0 (Nat.le_refl _)
    have hrs' : mrs m k ins.length rows w' := by
      exact ⟨(R0.1.gi (by omega)).trans b1, b2, b3, fun i hi1 => ⟨(b4 i hi1).1.mv R hi1 (by rw [(b4 i hi1).2.1]; exact hi.2.1), (b4 i hi1).2⟩⟩
    refine mm_44e (d := d + 1) Z w9 qN hN ((R.2.1 28 (by decide) (by decide)).trans h28) hk ((R.1.gi (by omega)).trans h22) hf6 ((R.1.gi (by omega)).trans hi.1) hi.2.1 hrs' (by omega) hl hlk hst c2 c3 (fun v w2 R2 a => hq v w2 (R.tr R2 (Nat.le_refl _)) (a.w z3))
end MN
