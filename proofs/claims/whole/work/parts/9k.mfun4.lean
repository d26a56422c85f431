/-! ===== the model: meaning of functions, from their first token on ===== -/
theorem f_fun_inv {K : Nat → Int} {p r : Nat} (h : f_fun K (false, p + 1) = (false, r)) : ∃ q e : Nat, K (p + 1) = 3 ∧ K (p + 2) = 16 ∧ f_ins K f_T (false, p + 3) = (false, q) ∧ K q = 17 ∧ K (q + 1) = 22 ∧ f_hd K (false, p + 1) = (false, q + 2) ∧ f_bod K (false, q + 2) = (false, e) ∧ K e = 19 ∧ r = e + 1 := by
  have e0 : f_fun K (false, p + 1) = f_x K 19 (f_bod K (f_x K 22 (f_x K 17 (f_ins K f_T (f_x K 16 (f_x K 3 (false, p + 1))))))) := rfl
  rw [e0] at h
  have h1 := f_x_ok (k := 19) (by rw [h])
  have h2 : (f_x K 22 (f_x K 17 (f_ins K f_T (f_x K 16 (f_x K 3 (false, p + 1)))))).1 = false := by
    have z : (f_bod K (f_x K 22 (f_x K 17 (f_ins K f_T (f_x K 16 (f_x K 3 (false, p + 1))))))).1 = false := by rw [h1.1]
    exact f_ex_ok (by decide) z
  have h3 := f_x_ok h2
  have h4 := f_x_ok (k := 17) (s := f_ins K f_T (f_x K 16 (f_x K 3 (false, p + 1)))) (by rw [h3.1])
  have h5 : (f_x K 16 (f_x K 3 (false, p + 1))).1 = false := by
    cases c : f_x K 16 (f_x K 3 (false, p + 1)) with
    | mk b v =>
      cases b with
      | false => rfl
      | true =>
        rw [c, f_ins_d] at h4
        have := h4.1
        injection this with z _
  have h6 := f_x_ok h5
  have h7 := f_x_ok (k := 3) (s := (false, p + 1)) (by rw [h6.1])
  rw [h7.2.2] at h6
  simp only at h6 h7
  rw [h7.2.2, h6.2.2] at h4 h3 h1 h
  obtain ⟨q, hq⟩ : ∃ q, f_ins K f_T (false, p + 3) = (false, q) := ⟨_, h4.1⟩
  have e3 : (false, p + 1 + 1 + 1) = (false, p + 3) := rfl
  rw [e3, hq] at h4 h3 h1 h
  rw [h4.2.2] at h3 h1 h
  rw [h3.2.2] at h1 h
  obtain ⟨e, he⟩ : ∃ e, f_bod K (false, q + 2) = (false, e) := ⟨_, h1.1⟩
  have e4 : ((false, q).2 + 1 + 1) = q + 2 := rfl
  have e5 : f_bod K (false, (false, (false, q).2 + 1).2 + 1) = f_bod K (false, q + 2) := rfl
  rw [e5, he] at h1 h
  refine ⟨q, e, h7.2.1, h6.2.1, hq, h4.2.1, h3.2.1, ?_, he, h1.2.1, ?_⟩
  · have e6 : f_hd K (false, p + 1) = f_x K 22 (f_x K 17 (f_ins K f_T (f_x K 16 (f_x K 3 (false, p + 1))))) := rfl
    rw [e6, h7.2.2, h6.2.2, e3, hq, h4.2.2, h3.2.2]
  · rw [h1.2.2] at h
    exact (congrArg Prod.snd h).symm
theorem mI.mfr {m F : Nat} {w w' : bm_W} (h : mI m F w w') : mfr m F w w' := ⟨fun g hg => ⟨h.1.gl (by omega), h.2.2.1 g (by omega), h.1.gi (by omega), h.1.gi (by omega), h.1.gi (by omega)⟩, h.2.2.2, by rw [h.2.1 11 (by decide) (by decide)]; exact Int.le_refl _, fun a j u v _ => h.1.gi (by omega)⟩
theorem mI.mtr {m F : Nat} {w w' : bm_W} (h : mI m F w w') : mtr m w w' := mtr.of h.1 (fun a u v => by omega) (h.2.1 28 (by decide) (by decide))
theorem mI.mG {m F : Nat} {w w' : bm_W} (h : mI m F w w') : mG m 0 w w' := mG.of h.1 (fun a u => by omega) (fun k hk => h.2.1 k (by omega) (by omega))
section MN
variable {d m N p q b e F r : Nat} {B : Int → Int} {w w0 : bm_W} {Φ : bm_Rt → bm_W → Prop} {ins : List y_in} {pr : y_pr}
theorem mm_takes (h : md_Z m B N w) (h9 : bm_gi w m 9 = (p : Int)) (hp : p ≤ N) {c : Nat} (h1 : 1 ≤ c) (h2 : c < 31) (q0 : t_K B p ≠ t_kc c → Φ (.inl (some (bm_i 0))) w) (q1 : t_K B p = t_kc c → p + 1 ≤ N → Φ (.inl (some (bm_i 1))) (bm_si w m 9 ((p + 1 : Nat) : Int))) : bm_Call bm_pg (d + 7) y_X12_takes [bm_r (some m), bm_k (0, c)] w Φ := by
  have N5 := h.2.2.1
  refine vc_X12_takes ?_
  simp only [bm_c0_v, bm_c1_v, bm_c2_v, bm_c3_v, bm_c4_v, bm_c5_v, bm_u_some, decide_eq_true_eq, true_and, and_true, and_self, Bool.not_eq_true, Bool.not_eq_true', decide_eq_false_iff_not, if_true, if_false, ite_true, ite_false, eq_self, h.1.1.1, true_or, or_true, mp_sees h h9 hp h1 h2, h9, bm_w1 (show p < 2147483647 by omega)]
  by_cases k : t_K B p = t_kc c
  · rw [if_pos k, if_pos (by decide)]
    have := q1 k (h.nx hp (by have := t_kc_rng c h1 h2; omega))
    simpa using this
  · rw [if_neg k, if_neg (by decide)]
    have := q0 k
    simpa using this
theorem mm_ins {v2 : Int} (h18 : bm_gi w0 m 18 = (F : Int)) (hF : F < 6) : ∀ (n : Nat) (ins : List y_in) (p : Nat) (w : bm_W), md_Z m B N w → mI m F w0 w → bm_gi w m 3 = bm_gi w0 m 3 → bm_gi w m 9 = (p : Int) → p ≤ N → mip m B F ins w → f_ins (t_K B) n (false, p) = (false, q) →
    (∀ er w', y_ins (t_K B) (t_V B) n ins p = .inl er → mI m F w0 w' → er.1 ≠ 0 → bm_gi w' m 3 = t_P B er.2 → Φ (.inl (some (bm_i er.1))) w') →
    (∀ ins' w', y_ins (t_K B) (t_V B) n ins p = .inr ins' → md_Z m B N w' → mI m F w0 w' → bm_gi w' m 3 = bm_gi w0 m 3 → bm_gi w' m 9 = ((q + 2 : Nat) : Int) → mip m B F ins' w' → bk_X12_fun_95 (d + 1265) Φ m v2 ((q + 2 : Nat) : Int) w') → bk_X12_fun_60 (d + 1265) Φ m v2 w
  | 0, ins, p, w, _, _, _, _, _, _, hf, _, _ => by cases hf
  | n + 1, ins, p, w, h, hI, h03, h9, hp, hi, hf, qE, qC => by
    have N5 := h.2.2.1
    have h18' : bm_gi w m 18 = (F : Int) := (hI.2.1 18 (by decide) (by decide)).trans h18
    cases hi1 : f_inp (t_K B) (false, p) with
    | mk bb q1 =>
      cases bb with
      | true => rw [f_ins_x hi1] at hf; cases hf
      | false =>
        have rg := f_far_inp (K := t_K B) h.2.2.2.2 (false, p) hp
        rw [hi1] at rg
        refine vb_X12_fun_60 ?_
        simp only [h.1.1.1, true_and]
        refine mm_input (d := d + 1256) h h9 hp h18' hF hi hi1 (fun x1 w1 I1 a1 => ?_)
        rw [bm_c1_v]
        have e0 := y_ins_s (K := t_K B) (V := t_V B) (n := n) (p := p) (ins := ins)
        have J1 := hI.tr I1
        have Z1 := h.mI I1
        cases hR : y_inp (t_K B) (t_V B) ins p with
        | inl er =>
          rw [hR] at a1 e0
          obtain ⟨b1, b2, b3⟩ := a1
          rw [if_neg (by simpa using (show ¬ x1 = 0 by omega))]
          rw [b1]
          exact qE er w1 e0 J1 b2 b3
        | inr ins' =>
          rw [hR, y_b_inr, hi1] at e0
          rw [hR] at a1
          obtain ⟨b1, b0, b2, b3⟩ := a1
          rw [if_pos (by simpa using b1)]
          have k12 : t_kc 12 = 18 := rfl
          have q1N : q1 ≤ N := rg.2.1
          refine ⟨Z1.1.1.1, mm_takes (d := d + 1258) Z1 b2 q1N (by decide) (by decide) (fun k => ?_) (fun k k2 => ?_)⟩
          · rw [k12] at k
            rw [f_ins_f hi1 k] at hf
            have qq : q1 = q := congrArg Prod.snd hf
            subst qq
            have e1 : y_it (t_K B) (t_V B) n ins' (false, q1) = .inr ins' := if_neg (fun z => k (by have := z.2.2; simp only at this; omega))
            rw [e1] at e0
            rw [bm_c1_v, if_neg (by decide)]
            have Z2 := Z1.at9 (v := ((q1 + 2 : Nat) : Int))
            have e9 : bm_gi (bm_si w1 m 9 ((q1 + 2 : Nat) : Int)) m 9 = ((q1 + 2 : Nat) : Int) := q_gi_eq
            simp only [Z1.1.1.1, Z2.1.1.1, true_and, b2, bm_w2 (show q1 < 2147483646 by omega), e9]
            exact qC ins' _ e0 Z2 (J1.at (Or.inr rfl)) ((q_gi_nk (by decide)).trans (b0.trans h03)) e9 (b3.mv (fun j => ⟨q_gi_ne (by omega), rfl, q_gi_ne (by omega), q_gi_ne (by omega)⟩))
          · rw [k12] at k
            rw [f_ins_t hi1 k (by omega)] at hf
            have e1 : y_it (t_K B) (t_V B) n ins' (false, q1) = y_ins (t_K B) (t_V B) n ins' (q1 + 1) := if_pos ⟨rfl, by show q1 < 1501; omega, by simp only; omega, by simp only; omega⟩
            rw [e1] at e0
            rw [bm_c1_v, if_pos (by decide)]
            exact mm_ins h18 hF n ins' (q1 + 1) _ Z1.at9 (J1.at (Or.inr rfl)) ((q_gi_nk (by decide)).trans (b0.trans h03)) q_gi_eq k2 (b3.mv (fun j => ⟨q_gi_ne (by omega), rfl, q_gi_ne (by omega), q_gi_ne (by omega)⟩)) hf (fun er w' z => qE er w' (e0.trans z)) (fun i2 w' z => qC i2 w' (e0.trans z))
theorem mm_fun (h : ml m N B pr p w) (h9 : bm_gi w m 9 = ((p + 1 : Nat) : Int)) (hp : p + 1 ≤ N) (hk : t_K B p = 4) (hf : f_fun (t_K B) (false, p + 1) = (false, r))
    (hq : ∀ x w', mG m (r - p) w w' → ma m w B (y_fun (t_K B) (t_V B) pr p) x w' (fun pr' => ml m N B pr' r w' ∧ bm_gi w' m 9 = ((r - 1 : Nat) : Int)) → Φ (.inl (some (bm_i x))) w') : bm_Call bm_pg (d + 1266) y_X12_fun [bm_r (some m), bm_i (p : Int)] w Φ := by
  obtain ⟨a1, a2, a3, a4, a5, ⟨n, a6, a7⟩, a8⟩ := h
  have N5 := a1.2.2.1
  obtain ⟨q, e, k1, k2, hi, k3, k4, hhd, hbod, k5, rfl⟩ := f_fun_inv hf
  have p2N : p + 2 ≤ N := a1.nx hp (by omega)
  have p3N : p + 3 ≤ N := a1.nx p2N (by omega)
  have rgi := f_far_ins (K := t_K B) a1.2.2.2.2 f_T (false, p + 3) p3N
  rw [hi] at rgi
  have q1N : q + 1 ≤ N := a1.nx rgi.2.1 (by omega)
  have q2N : q + 2 ≤ N := a1.nx q1N (by omega)
  have rgb := f_far_bod (K := t_K B) a1.2.2.2.2 (false, q + 2) q2N
  rw [hbod] at rgb
  simp only at rgi rgb
  have Ib : y_I (t_K B) (q + 2) = y_I (t_K B) p := by
    have := (f_noi_hd (K := t_K B) (false, p + 1) (by rw [hhd])).2
    rw [hhd] at this
    exact this.trans (y_I_no (by omega))
  rw [y_fun_eq] at hq
  have h18 : bm_gi w m 18 = (pr.1.length : Int) := a3.1
  refine vc_X12_fun ?_
  simp only [a1.1.1.1, h18, true_and]
  by_cases c6 : 6 ≤ pr.1.length
  · rw [if_pos c6] at hq
    have := a3.2.1
    rw [if_neg (by simp; omega)]
    refine mm_wrong (d := d + 1264) a1 (by omega : p ≤ N) (fun a => ?_)
    rw [bm_c1_v]
    exact hq 4 _ ((mG.rf.mo (Nat.zero_le _)).si (by omega) (by omega)) (ma_wr (by decide) a)
  rw [if_neg c6] at hq
  rw [if_pos (by simp; omega), h9]
  have nmo : ∀ Ψ, bm_Call bm_pg (d + 1265) y_X12_nameOf [bm_r (some m), bm_i ((p + 1 : Nat) : Int)] w Ψ ↔ Ψ (.inl (some (bm_l (t_nm B (p + 1))))) w := fun Ψ => mp_nameOf a1 hp (by omega)
  simp only [nmo]
  rw [bm_c2_v]
  refine ⟨a1.1.1.1, mm_isTaken (d := d + 1263) a1 a3 a4 k1 ?_⟩
  rw [bm_c1_v]
  by_cases ct : y_tk (t_V B) pr (t_V B (p + 1))
  · rw [if_pos ct] at hq ⊢
    rw [if_neg (by decide)]
    simp only [a1.1.1.1, true_and]
    refine mm_wrong (d := d + 1264) a1 hp (fun a => ?_)
    rw [bm_c1_v]
    exact hq 3 _ ((mG.rf.mo (Nat.zero_le _)).si (by omega) (by omega)) (ma_wr (by decide) a)
  rw [if_neg ct] at hq ⊢
  rw [if_pos (by decide)]
  have Z1 := a1.at9 (v := ((p + 3 : Nat) : Int))
  have g18 : bm_gi (bm_si w m 9 ((p + 3 : Nat) : Int)) m 18 = (pr.1.length : Int) := (q_gi_nk (by decide)).trans h18
  simp only [bm_c0_v, bm_c1_v, bm_c2_v, bm_c3_v, bm_c4_v, bm_c5_v, bm_u_some, decide_eq_true_eq, true_and, and_true, and_self, Bool.not_eq_true, Bool.not_eq_true', decide_eq_false_iff_not, if_true, if_false, ite_true, ite_false, eq_self, a1.1.1.1, h9, bm_w2 (show p + 1 < 2147483646 by omega), show p + 1 + 2 = p + 3 from rfl, Z1.1.1.1, Z1.1.1.g20, Z1.1.1.t20, Z1.1.1.n20, g18, bm_in, Int.toNat_natCast]
  have I0 : mI m pr.1.length w (bm_si (bm_si w m 9 ((p + 3 : Nat) : Int)) (m + 14) pr.1.length 0) := ⟨(q_fr.rf.si (by omega)).si (by omega), fun k x y => by rw [q_gi_ne (by omega), q_gi_nk y], fun j hj => by rw [q_gi_nk hj, q_gi_ne (by omega)], fun j _ => ⟨rfl, by rw [q_gi_ne (by omega), q_gi_ne (by omega)], by rw [q_gi_ne (by omega), q_gi_ne (by omega)]⟩⟩
  have m0 : mip m B pr.1.length [] (bm_si (bm_si w m 9 ((p + 3 : Nat) : Int)) (m + 14) pr.1.length 0) := ⟨q_gi_eq, Nat.zero_le _, fun i hi => (by cases hi), fun i j _ hj => (by cases hj)⟩
  have e9 : bm_gi (bm_si (bm_si w m 9 ((p + 3 : Nat) : Int)) (m + 14) pr.1.length 0) m 9 = ((p + 3 : Nat) : Int) := by rw [q_gi_ne (by omega), q_gi_eq]
  refine ⟨by omega, mm_ins (w0 := w) h18 (by omega) f_T [] (p + 3) _ (a1.mI I0) I0 (by rw [q_gi_ne (by omega), q_gi_nk (by decide)]) e9 p3N m0 hi (fun er w' z I1 er0 er3 => ?_) (fun ins' w' z Z2 I1 z3 w9 mi => ?_)⟩
  · rw [z, y_b_inl] at hq
    exact hq er.1 w' (I1.mG.mo (Nat.zero_le _)) ⟨rfl, er0, er3⟩
  · rw [z, y_b_inr, hi] at hq
    have len1 : 1 ≤ ins'.length := by
      have z' : y_ins (t_K B) (t_V B) (1500 + 1) [] (p + 3) = .inr ins' := z
      rw [y_ins_s] at z'
      cases e1 : y_inp (t_K B) (t_V B) [] (p + 3) with
      | inl er => rw [e1] at z'; cases z'
      | inr i1 =>
        rw [e1, y_b_inr] at z'
        have := y_it_len _ _ _ _ z'
        have := y_inp_len e1
        omega
    have G1 : mg m N B pr ins' p (q + 2) w' := by
      refine ⟨Z2, by rw [I1.1.sz]; exact a2, a3.mv I1.mfr (I1.2.1 18 (by decide) (by decide)), a4.mv I1.mtr rfl (Nat.le_refl _) (fun _ _ => rfl), ?_, ⟨n, (I1.2.1 11 (by decide) (by decide)).trans a6, by omega⟩, by omega, by omega, mi, len1, k1, hp, by omega, ?_⟩
      · rw [I1.2.1 27 (by decide) (by decide), a5, Ib]
      · have := y_ix_rng (V := t_V B) (v := t_V B (p + 1)) (pr.1.map (·.1)) 0 (Int.le_refl _)
        unfold y_tk at ct
        omega
    refine mm_body (d := d) G1 w9 rfl k5 hbod rgb.2.1 (fun x w2 G2 m2 => hq x w2 ((I1.mG.tr G2).mo (by omega)) ?_)
    exact m2.w z3
end MN
