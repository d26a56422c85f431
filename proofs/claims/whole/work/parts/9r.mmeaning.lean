/-! ===== the model: meaning of programs ===== -/
section PF
variable {K V : Nat → Int}
theorem y_wh_rng {p : Nat} {lo hi v : Int} (h : y_wh K V p lo hi = .inr v) : lo ≤ v ∧ v ≤ hi := by
  unfold y_wh at h
  split at h
  · split at h
    · rename_i z
      injection h with h
      omega
    · cases h
  · split at h
    · rename_i z
      injection h with h
      omega
    · cases h
theorem y_inp_fk {ins ins' : List y_in} {p : Nat} (h : y_inp K V ins p = .inr ins') (hi : y_fk ins) : y_fk ins' := by
  unfold y_inp at h
  split at h
  · cases h
  split at h
  · cases h
  cases e1 : y_wh K V (p + 2) (-20) 20 with
  | inl e => rw [e1] at h; cases h
  | inr lo =>
    rw [e1, y_b_inr] at h
    cases e2 : y_wh K V ((f_wh K (false, p + 2)).2 + 1) lo 20 with
    | inl e => rw [e2] at h; cases h
    | inr v =>
      rw [e2, y_b_inr] at h
      injection h with h
      subst h
      have a := y_wh_rng e1
      have b := y_wh_rng e2
      intro i hi2
      rw [List.length_append, List.length_singleton] at hi2
      by_cases z : i = ins.length
      · rw [q_gde z]; exact ⟨a.1, b.1, b.2⟩
      · rw [q_gdl (by omega)]; exact hi i (by omega)
theorem y_ins_fk : ∀ (n : Nat) (ins ins' : List y_in) (p : Nat), y_ins K V n ins p = .inr ins' → y_fk ins → y_fk ins'
  | 0, ins, ins', p, h, hi => by
    unfold y_ins at h
    injection h with h
    rw [← h]; exact hi
  | n + 1, ins, ins', p, h, hi => by
    rw [y_ins_s] at h
    cases e1 : y_inp K V ins p with
    | inl e => rw [e1] at h; cases h
    | inr i1 =>
      rw [e1, y_b_inr] at h
      have a := y_inp_fk e1 hi
      unfold y_it at h
      split at h
      · exact y_ins_fk n i1 ins' _ h a
      · injection h with h
        rw [← h]; exact a
/-- fair functions -/
def y_fks (pr : y_pr) : Prop := ∀ g, g < pr.1.length → y_fk (pr.1.getD g y_f0).2.1
theorem y_fun_fks {pr pr' : y_pr} {p : Nat} (h : y_fun K V pr p = .inr pr') (hf : y_fks pr) : y_fks pr' := by
  rw [y_fun_eq] at h
  split at h
  · cases h
  split at h
  · cases h
  cases e1 : y_ins K V f_T [] (p + 3) with
  | inl e => rw [e1] at h; cases h
  | inr ins =>
    rw [e1, y_b_inr] at h
    have a := y_ins_fk f_T [] ins (p + 3) e1 (fun i hi => by cases hi)
    unfold y_fun3 at h
    split at h
    · cases h
    · split at h
      · cases h
      · injection h with h
        rw [← h]
        intro g hg
        simp only at hg ⊢
        rw [List.length_append, List.length_singleton] at hg
        by_cases z : g = pr.1.length
        · rw [q_gde z]; exact a
        · rw [q_gdl (by omega)]; exact hf g (by omega)
theorem y_tab_fks {pr pr' : y_pr} {p : Nat} (h : y_tab K V pr p = .inr pr') (hf : y_fks pr) : y_fks pr' := by
  unfold y_tab at h
  split at h
  · cases h
  split at h
  · cases h
  split at h
  · cases h
  cases e1 : y_rws K V (pr.1.getD (y_ix V (V (p + 3)) (pr.1.map (·.1)) 0).toNat y_f0).2.1 f_T [] (p + 5) with
  | inl e => rw [e1] at h; cases h
  | inr rows =>
    rw [e1, y_b_inr] at h
    injection h with h
    rw [← h]
    exact hf
end PF
section MN
variable {d m N p q e : Nat} {B : Int → Int} {w w0 w' : bm_W} {Φ : bm_Rt → bm_W → Prop} {pr : y_pr}
theorem ml.at (h : ml m N B pr p w) {v : Int} : ml m N B pr p (bm_si w m 9 v) := by
  obtain ⟨a1, a2, a3, a4, a5, a6, a7⟩ := h
  have F : q_fr (fun a => a = m) w (bm_si w m 9 v) := q_fr.rf.si rfl
  exact ⟨a1.at9, a2, a3.mv (mfr.of F (fun a u v => by omega) (by rw [q_gi_nk (by decide)]; exact Int.le_refl _)) (q_gi_nk (by decide)), a4.mv (mtr.of F (fun a u v => by omega) (q_gi_nk (by decide))) rfl (Nat.le_refl _) (fun _ _ => rfl), (q_gi_nk (by decide)).trans a5, by rw [q_gi_nk (by decide)]; exact a6, a7⟩
theorem mm_its : ∀ (n : Nat) (pr : y_pr) (p : Nat) (w : bm_W) (Φ : bm_Rt → bm_W → Prop), ml m N B pr p w → y_fks pr → bm_gi w m 9 = (p : Int) → p ≤ N → f_its (t_K B) n (false, p) = (false, e) → t_K B e = 0 → (∀ x w', mG m (e - p) w w' → ma m w B (y_its (t_K B) (t_V B) n pr p) x w' (fun pr' => ml m N B pr' e w' ∧ y_fks pr') → Φ (.inl (some (bm_i x))) w') → bk_X12_meaning_0 (d + 1266) Φ m w
  | 0, pr, p, w, Φ, h, hfk, h9, hp, hf, hke, hq => by cases hf
  | n + 1, pr, p, w, Φ, h, hfk, h9, hp, hf, hke, hq => by
    have Z := h.1
    have N5 := Z.2.2.1
    have S := Z.1.1
    have K0 := Z.2.2.2.2
    cases hc1 : f_itm (t_K B) (false, p) with
    | mk bb q =>
      cases bb with
      | true =>
        rw [f_its_x hc1] at hf; cases hf
      | false =>
        have far := f_far_itm (K := t_K B) (N := N) K0 (false, p) hp
        rw [hc1] at far
        have qN : q ≤ N := far.2.1
        have kp : t_K B p = 4 ∨ t_K B p = 12 := by
          by_cases c : t_K B p = 4
          · exact Or.inl c
          · by_cases c2 : t_K B p = 12
            · exact Or.inr c2
            · rw [f_itm_x c c2] at hc1; cases hc1
        have p1N : p + 1 ≤ N := Z.nx hp (by omega)
        have kr : 0 ≤ t_K B p := (t_k_rng B (t_P B p)).1
        have tb := (Z.2.1 p (by omega)).1
        have e0 := y_its_s (K := t_K B) (V := t_V B) (n := n) (p := p) (pr := pr)
        have ipos := f_itm_pos K0 N5 hp hc1
        have qe : q ≤ e := by
          have hf' := hf
          by_cases c0 : t_K B q = 0
          · rw [f_its_f hc1 c0 (by omega)] at hf'
            have := congrArg Prod.snd hf'
            simp only at this
            omega
          · rw [f_its_t hc1 c0] at hf'
            have := (f_far_its (K := t_K B) K0 n (false, q) qN).1
            rw [hf'] at this
            exact this
        -- behind an item
        have fin : ∀ (pr1 : y_pr) (w1 : bm_W), y_itm (t_K B) (t_V B) pr p = .inr pr1 → ml m N B pr1 q w1 → y_fks pr1 → bm_gi w1 m 9 = ((q - 1 : Nat) : Int) → mG m (q - p) w w1 → bm_gi w1 m 3 = bm_gi w m 3 → bk_X12_meaning_0 (d + 1266) Φ m (bm_si w1 m 9 ((q : Nat) : Int)) := fun pr1 w1 y1 m1 k1 g9 G1 h3 => by
          rw [y1, y_b_inr, hc1] at e0
          have m2 := m1.at (v := ((q : Nat) : Int))
          have kq : 0 ≤ t_K B q := (t_k_rng B (t_P B q)).1
          have u9 : bm_gi (bm_si w1 m 9 ((q : Nat) : Int)) m 9 = (q : Int) := q_gi_eq
          have G2 : mG m (q - p) w (bm_si w1 m 9 ((q : Nat) : Int)) := G1.si (by omega) (by omega)
          by_cases c0 : t_K B q = 0
          · have see0 : f_see (t_K B) f_T (false, q) 0 0 := ⟨rfl, by show q < 1501; omega, by simp only; omega, by simp only; omega⟩
            rw [if_neg (fun z => z.2 see0)] at e0
            rw [f_its_f hc1 c0 (by omega)] at hf
            have qe : q = e := congrArg Prod.snd hf
            subst qe
            have tq := (m2.1.2.1 q (by omega)).1
            refine vb_X12_meaning_0 ?_
            simp only [bm_c0_v, bm_c1_v, bm_c2_v, bm_c3_v, bm_c4_v, bm_c5_v, bm_u_some, decide_eq_true_eq, true_and, and_true, and_self, Bool.not_eq_true, Bool.not_eq_true', decide_eq_false_iff_not, if_true, if_false, ite_true, ite_false, eq_self, m2.1.1.1.1, m2.1.1.1.1, m2.1.1.1.g4, m2.1.1.1.t4, m2.1.1.1.n4, u9, bm_in, Int.toNat_natCast, tq, t_mk_0 (t_K B q) kq, c0]
            rw [if_pos (show t_mk 0 = 0 from rfl)]
            refine ⟨by omega, hq 0 _ G2 ?_⟩
            rw [e0]
            exact ⟨rfl, (q_gi_nk (by decide)).trans h3, m2, k1⟩
          · have see0 : ¬ f_see (t_K B) f_T (false, q) 0 0 := fun z => c0 (by have := z.2.2; simp only at this; omega)
            rw [if_pos ⟨rfl, see0⟩] at e0
            rw [f_its_t hc1 c0] at hf
            have eq : q ≤ e := by
              have := (f_far_its (K := t_K B) K0 n (false, q) qN).1
              rw [hf] at this
              exact this
            rw [e0] at hq
            exact mm_its n pr1 q _ Φ m2 k1 u9 qN hf hke (fun x w2 G a => hq x w2 ((G2.tr G).mo (by omega)) (a.w ((q_gi_nk (by decide)).trans h3)))
        have Z1 := Z.at9 (v := ((p + 1 : Nat) : Int))
        have m1 := h.at (v := ((p + 1 : Nat) : Int))
        have e9 : bm_gi (bm_si w m 9 ((p + 1 : Nat) : Int)) m 9 = ((p + 1 : Nat) : Int) := q_gi_eq
        have G0 : mG m 0 w (bm_si w m 9 ((p + 1 : Nat) : Int)) := mG.rf.si (by omega) (by omega)
        have k2 : t_kc 2 = 4 := rfl
        refine vb_X12_meaning_0 ?_
        simp only [bm_c0_v, bm_c1_v, bm_c2_v, bm_c3_v, bm_c4_v, bm_c5_v, bm_u_some, decide_eq_true_eq, true_and, and_true, and_self, Bool.not_eq_true, Bool.not_eq_true', decide_eq_false_iff_not, if_true, if_false, ite_true, ite_false, eq_self, S.1, S.1, S.g4, S.t4, S.n4, h9, bm_in, Int.toNat_natCast, tb, t_mk_0 (t_K B p) kr, bm_w1 (show p < 2147483647 by omega), Z1.1.1.1, mp_is (d := d + 1261) Z1 hp (show 1 ≤ 2 by decide) (show 2 < 31 by decide), k2, bm_c1_v]
        rw [if_neg (by omega)]
        refine ⟨by omega, ?_⟩
        rcases kp with c4 | c12
        · rw [if_pos c4, if_neg (by decide)]
          rw [f_itm_f c4 (by omega)] at hc1
          refine mm_fun (d := d) m1 e9 p1N c4 hc1 (fun x w1 G a => ?_)
          rw [bm_c1_v]
          have G1 := (G0.tr G).mo (show 0 + (q - p) ≤ q - p by omega)
          have yi : y_itm (t_K B) (t_V B) pr p = y_fun (t_K B) (t_V B) pr p := if_pos c4
          cases hR : y_fun (t_K B) (t_V B) pr p with
          | inl er =>
            rw [hR] at a
            obtain ⟨b1, b2, b3⟩ := a
            rw [yi, hR, y_b_inl] at e0
            rw [if_neg (by omega), b1]
            refine hq er.1 w1 (G1.mo ?_) (by rw [e0]; exact ⟨rfl, b2, b3⟩)
            omega
          | inr pr1 =>
            rw [hR] at a
            obtain ⟨b1, b0, b2, b3⟩ := a
            rw [if_pos b1]
            have kt1 := b2.1.1.1.1
            simp only [kt1, true_and, b3, bm_w1 (show q - 1 < 2147483647 by omega), show q - 1 + 1 = q by omega]
            exact fin pr1 w1 (yi.trans hR) b2 (y_fun_fks hR hfk) b3 G1 (b0.trans (q_gi_nk (by decide)))
        · rw [if_neg (show ¬ t_K B p = 4 by omega), if_pos rfl]
          rw [f_itm_t c12 (by omega)] at hc1
          refine mm_table (d := d + 1255) m1 e9 p1N c12 hc1 hfk (fun x w1 G a => ?_)
          rw [bm_c1_v]
          have G1 := (G0.tr G).mo (show 0 + 0 ≤ q - p by omega)
          have yi : y_itm (t_K B) (t_V B) pr p = y_tab (t_K B) (t_V B) pr p := if_neg (by omega)
          cases hR : y_tab (t_K B) (t_V B) pr p with
          | inl er =>
            rw [hR] at a
            obtain ⟨b1, b2, b3⟩ := a
            rw [yi, hR, y_b_inl] at e0
            rw [if_neg (by omega), b1]
            exact hq er.1 w1 ((G0.tr G).mo (by omega)) (by rw [e0]; exact ⟨rfl, b2, b3⟩)
          | inr pr1 =>
            rw [hR] at a
            obtain ⟨b1, b0, b2, b3⟩ := a
            rw [if_pos b1]
            have kt1 := b2.1.1.1.1
            simp only [kt1, true_and, b3, bm_w1 (show q - 1 < 2147483647 by omega), show q - 1 + 1 = q by omega]
            exact fin pr1 w1 (yi.trans hR) b2 (y_tab_fks hR hfk) b3 G1 (b0.trans (q_gi_nk (by decide)))
end MN
