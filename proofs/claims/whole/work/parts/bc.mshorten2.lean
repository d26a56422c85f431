section CR
variable {d m k : Nat} {B : Int → Int} {pr : y_pr} {rows : List y_rw} {w w0 w' w1 : bm_W} {Φ : bm_Rt → bm_W → Prop}
theorem q_gw.cp {A R : Nat → Prop} {c s a : Nat} (h : q_gw A R c s w w') (ha : a < bm_sz w') : q_gw A R (c + 1) (s + bm_kn w' a) w (bm_cp w' a) := by
  obtain ⟨⟨a1, a2, a3, a4⟩, a5⟩ := h
  refine ⟨⟨?_, ?_, ?_, ?_⟩, fun x hx => ?_⟩
  · rw [bm_cp_sz]; omega
  · rw [bm_cp_sz]; omega
  · rw [bm_cp_sl]; omega
  · rw [bm_cp_sl]; omega
  · have ne : ¬ x = bm_sz w' := by omega
    obtain ⟨⟨b1, b2⟩, b3, b4⟩ := a5 x hx
    refine ⟨⟨by rw [bm_cp_kt, if_neg ne]; exact b1, by rw [bm_cp_kn, if_neg ne]; exact b2⟩, fun z j => by rw [bm_cp_gr, if_neg ne]; exact b3 z j, fun z j => ⟨by rw [bm_cp_gi, if_neg ne]; exact (b4 z j).1, by rw [bm_cp_gl, if_neg ne]; exact (b4 z j).2⟩⟩
/-- rows move up -/
def sf (k n i x : Nat) : Nat := if 12 * k + n ≤ x ∧ x < 12 * k + i then x + 1 else x
theorem ms_99 {most v3 : Int} {n L a0 a1 a2 a3 : Nat} (w0 : bm_W) (S : sh_Md m w0) (hk : k < 6) (hL : L < 12) (h23 : bm_gi w0 (m + 23) k = ((L + 1 : Nat) : Int)) (hq : ∀ w', q_fr (fun x => m + 24 ≤ x ∧ x ≤ m + 27) w0 w' → (∀ x, mRw m w0 (sf k n L x) w' x) → bk_X12_shorten_99 (d + 2) Φ m (k : Int) most v3 a0 a1 a2 a3 (L : Int) w') : ∀ (rem i : Nat) (w : bm_W), i + rem = L → n ≤ i → q_fr (fun x => m + 24 ≤ x ∧ x ≤ m + 27) w0 w → (∀ x, mRw m w0 (sf k n i x) w x) → bk_X12_shorten_99 (d + 2) Φ m (k : Int) most v3 a0 a1 a2 a3 (i : Int) w
  | 0, i, w, hi, hn, F, hr => by
    have : i = L := by omega
    subst this
    exact hq w F hr
  | rem + 1, i, w, hi, hn, F, hr => by
    have S1 := S.fr F
    have e23 : bm_gi w (m + 23) k = ((L + 1 : Nat) : Int) := (F.gi (by omega)).trans h23
    refine vb_X12_shorten_99 ?_
    simp only [bm_c0_v, bm_c1_v, bm_c2_v, bm_c3_v, bm_c4_v, bm_c5_v, bm_u_some, decide_eq_true_eq, true_and, and_true, and_self, Bool.not_eq_true, Bool.not_eq_true', decide_eq_false_iff_not, if_true, if_false, ite_true, ite_false, eq_self, S1.1, S1.1, S1.g31, S1.t31, S1.n31, bm_in, Int.toNat_natCast, e23, bm_w1 (show i < 2147483647 by omega)]
    rw [if_neg (by omega)]
    refine ⟨by omega, mp_copyRow (d := d) S1 hk (show i + 1 ≠ i by omega) (by omega) (by omega) (fun w2 F2 r2 o2 => ?_)⟩
    rw [bm_c0_v]
    refine ms_99 w0 S hk hL h23 hq rem (i + 1) w2 (by omega) (by omega) (F.tr F2) (fun x => ?_)
    by_cases c : x = 12 * k + i
    · have e : sf k n (i + 1) x = 12 * k + (i + 1) := by
        unfold sf
        rw [if_pos ⟨by omega, by omega⟩]
        omega
      have e2 : sf k n i (12 * k + (i + 1)) = 12 * k + (i + 1) := by
        unfold sf
        rw [if_neg (by omega)]
      rw [e, c]
      have := hr (12 * k + (i + 1))
      rw [e2] at this
      exact this.tr r2
    · have e : sf k n (i + 1) x = sf k n i x := by
        unfold sf
        by_cases y : 12 * k + n ≤ x ∧ x < 12 * k + i
        · rw [if_pos y, if_pos ⟨y.1, by omega⟩]
        · rw [if_neg y, if_neg (by omega)]
      rw [e]
      exact (hr x).tr (o2 x c)
theorem ms_34 (hk : k < pr.2.length) (hP : (y_tF pr k).2.2.1 ≤ 50) (w : bm_W) (hq : ∀ rows' w', mP m 48 6912 w w' → bm_gi w' m 0 = 0 → mA m B (y_st pr k rows') w' → rows' = s_sh (y_tF pr k).2.2.2.2 (y_tF pr k).2.2.1 rows.length rows → Φ (.inl (some (bm_i (rows'.length : Int)))) w') : ∀ (nn c s : Nat) (cur : List y_rw) (w1 : bm_W), nn ≤ cur.length → mA m B (y_st pr k cur) w1 → mP m c s w w1 → c + 4 * nn ≤ 48 → s + 576 * nn ≤ 6912 → bm_gi w1 m 0 = 0 → s_sh (y_tF pr k).2.2.2.2 (y_tF pr k).2.2.1 rows.length rows = s_sh (y_tF pr k).2.2.2.2 (y_tF pr k).2.2.1 nn cur → bk_X12_shorten_34 (d + 1204) Φ m (k : Int) (s_fn (y_tF pr k).2.2.2.2 cur (y_tF pr k).2.2.1) ((nn : Int) - 1) w1 := by
  intro nn
  induction nn with
  | zero =>
    intro c s cur w1 hn hA hPw hc hs h0 he
    have T := (hA.tab (k := k) (by rw [y_st_len]; exact hk)).1
    have e2 : ((y_st pr k cur).2.getD k y_t0).2.2 = cur := by rw [y_st_r hk, if_pos rfl]
    rw [e2] at T
    have k6 := T.2.1
    have S := hA.1
    refine vb_X12_shorten_34 ?_
    rw [if_pos (by decide)]
    simp only [bm_c0_v, bm_c1_v, bm_c2_v, bm_c3_v, bm_c4_v, bm_c5_v, bm_u_some, decide_eq_true_eq, true_and, and_true, and_self, Bool.not_eq_true, Bool.not_eq_true', decide_eq_false_iff_not, if_true, if_false, ite_true, ite_false, eq_self, S.1, S.g31, S.t31, S.n31, bm_in, Int.toNat_natCast, T.2.2.2.2.2.2.2.1]
    exact ⟨by omega, hq cur w1 (hPw.mo (by omega) (by omega)) h0 hA he.symm⟩
  | succ n ih =>
    intro c s cur w1 hn hA hPw hc hs h0 he
    have T := (hA.tab (k := k) (by rw [y_st_len]; exact hk)).1
    have e2 : ((y_st pr k cur).2.getD k y_t0).2.2 = cur := by rw [y_st_r hk, if_pos rfl]
    rw [e2] at T
    have k6 := T.2.1
    have l12 := T.2.2.2.2.2.2.2.2.1
    have ct := T.2.2.2.2.2.2.2.2.2.1
    have S := hA.1
    have sz1 := hA.2.1
    have ei : ((n + 1 : Nat) : Int) - 1 = (n : Int) := by omega
    refine vb_X12_shorten_34 ?_
    rw [ei, if_neg (by simp)]
    simp only [bm_c0_v, bm_c1_v, bm_c2_v, bm_c3_v, bm_c4_v, bm_c5_v, bm_u_some, decide_eq_true_eq, true_and, and_true, and_self, Bool.not_eq_true, Bool.not_eq_true', decide_eq_false_iff_not, if_true, if_false, ite_true, ite_false, eq_self, S.1, S.g31, S.t31, S.n31, bm_in, Int.toNat_natCast, T.2.2.2.2.2.2.2.1]
    refine ⟨by omega, ?_⟩
    by_cases c1 : 1 < cur.length
    · rw [s_sh_s, if_pos c1] at he
      rw [if_neg (by omega)]
      have G1 : q_gw (fun _ => False) (fun _ => False) 1 216 w1 (bm_cp w1 (m + 24)) := by
        have := (q_gw.rf (A := fun _ => False) (R := fun _ => False) (w := w1)).cp (a := m + 24) (by omega)
        rw [S.n32] at this
        exact this
      have S1 : sh_Md m (bm_cp w1 (m + 24)) := S.gw G1 sz1 (fun z => z)
      have G2 : q_gw (fun _ => False) (fun _ => False) 2 432 w1 (bm_cp (bm_cp w1 (m + 24)) (m + 25)) := by
        have := G1.cp (a := m + 25) (by rw [bm_cp_sz]; omega)
        rw [S1.n33] at this
        exact this
      have S2 : sh_Md m (bm_cp (bm_cp w1 (m + 24)) (m + 25)) := S.gw G2 sz1 (fun z => z)
      have G3 : q_gw (fun _ => False) (fun _ => False) 3 504 w1 (bm_cp (bm_cp (bm_cp w1 (m + 24)) (m + 25)) (m + 26)) := by
        have := G2.cp (a := m + 26) (by rw [bm_cp_sz, bm_cp_sz]; omega)
        rw [S2.n34] at this
        exact this
      have S3 : sh_Md m (bm_cp (bm_cp (bm_cp w1 (m + 24)) (m + 25)) (m + 26)) := S.gw G3 sz1 (fun z => z)
      have G4 : q_gw (fun _ => False) (fun _ => False) 4 576 w1 (bm_cp (bm_cp (bm_cp (bm_cp w1 (m + 24)) (m + 25)) (m + 26)) (m + 27)) := by
        have := G3.cp (a := m + 27) (by rw [bm_cp_sz, bm_cp_sz, bm_cp_sz]; omega)
        rw [S3.n35] at this
        exact this
      have S4 : sh_Md m (bm_cp (bm_cp (bm_cp (bm_cp w1 (m + 24)) (m + 25)) (m + 26)) (m + 27)) := S.gw G4 sz1 (fun z => z)
      have k1 : bm_kt (bm_cp w1 (m + 24)) (bm_sz w1) = 21 := by rw [bm_cp_kt, if_pos rfl]; exact S.t32
      have k2 : bm_kt (bm_cp (bm_cp w1 (m + 24)) (m + 25)) (bm_sz (bm_cp w1 (m + 24))) = 21 := by rw [bm_cp_kt, if_pos rfl]; exact S1.t33
      have k3 : bm_kt (bm_cp (bm_cp (bm_cp w1 (m + 24)) (m + 25)) (m + 26)) (bm_sz (bm_cp (bm_cp w1 (m + 24)) (m + 25))) = 21 := by rw [bm_cp_kt, if_pos rfl]; exact S2.t34
      have k4 : bm_kt (bm_cp (bm_cp (bm_cp (bm_cp w1 (m + 24)) (m + 25)) (m + 26)) (m + 27)) (bm_sz (bm_cp (bm_cp (bm_cp w1 (m + 24)) (m + 25)) (m + 26))) = 22 := by rw [bm_cp_kt, if_pos rfl]; exact S3.t35
      simp only [bm_c0_v, bm_c1_v, bm_c2_v, bm_c3_v, bm_c4_v, bm_c5_v, bm_u_some, decide_eq_true_eq, true_and, and_true, and_self, Bool.not_eq_true, Bool.not_eq_true', decide_eq_false_iff_not, if_true, if_false, ite_true, ite_false, eq_self, S.1, S.g32, S.t32, S.n32, k1, S1.1, S1.g33, S1.t33, S1.n33, k2, S2.1, S2.g34, S2.t34, S2.n34, k3, S3.1, S3.g35, S3.t35, S3.n35, k4]
      have z1 : bm_sz (bm_cp w1 (m + 24)) = bm_sz w1 + 1 := rfl
      have z2 : bm_sz (bm_cp (bm_cp w1 (m + 24)) (m + 25)) = bm_sz w1 + 2 := rfl
      have z3 : bm_sz (bm_cp (bm_cp (bm_cp w1 (m + 24)) (m + 25)) (m + 26)) = bm_sz w1 + 3 := rfl
      have z4 : bm_sz (bm_cp (bm_cp (bm_cp (bm_cp w1 (m + 24)) (m + 25)) (m + 26)) (m + 27)) = bm_sz w1 + 4 := rfl
      rw [z1, z2, z3]
      obtain ⟨L, hL⟩ : ∃ L, cur.length = L + 1 := ⟨cur.length - 1, by omega⟩
      -- the copies
      have A0 : ∀ j, bm_gi (bm_cp (bm_cp (bm_cp (bm_cp w1 (m + 24)) (m + 25)) (m + 26)) (m + 27)) (bm_sz w1) j = bm_gi w1 (m + 24) j := fun j => by
        rw [bm_cp_gi, if_neg (by rw [z3]; omega), bm_cp_gi, if_neg (by rw [z2]; omega), bm_cp_gi, if_neg (by rw [z1]; omega), bm_cp_gi, if_pos rfl]
      have A1 : ∀ j, bm_gi (bm_cp (bm_cp (bm_cp (bm_cp w1 (m + 24)) (m + 25)) (m + 26)) (m + 27)) (bm_sz w1 + 1) j = bm_gi w1 (m + 25) j := fun j => by
        rw [bm_cp_gi, if_neg (by rw [z3]; omega), bm_cp_gi, if_neg (by rw [z2]; omega), bm_cp_gi, if_pos z1.symm]
        exact G1.gi (by omega) (fun z => z)
      have A2 : ∀ j, bm_gi (bm_cp (bm_cp (bm_cp (bm_cp w1 (m + 24)) (m + 25)) (m + 26)) (m + 27)) (bm_sz w1 + 2) j = bm_gi w1 (m + 26) j := fun j => by
        rw [bm_cp_gi, if_neg (by rw [z3]; omega), bm_cp_gi, if_pos z2.symm]
        exact G2.gi (by omega) (fun z => z)
      have A3 : ∀ j, bm_gl (bm_cp (bm_cp (bm_cp (bm_cp w1 (m + 24)) (m + 25)) (m + 26)) (m + 27)) (bm_sz w1 + 3) j = bm_gl w1 (m + 27) j := fun j => by
        rw [bm_cp_gl, if_pos z3.symm]
        exact G3.gl (by omega) (fun z => z)
      have K0 : bm_kt (bm_cp (bm_cp (bm_cp (bm_cp w1 (m + 24)) (m + 25)) (m + 26)) (m + 27)) (bm_sz w1) = 21 := by
        rw [bm_cp_kt, if_neg (by rw [z3]; omega), bm_cp_kt, if_neg (by rw [z2]; omega), bm_cp_kt, if_neg (by rw [z1]; omega)]; exact k1
      have K1 : bm_kt (bm_cp (bm_cp (bm_cp (bm_cp w1 (m + 24)) (m + 25)) (m + 26)) (m + 27)) (bm_sz w1 + 1) = 21 := by
        rw [bm_cp_kt, if_neg (by rw [z3]; omega), bm_cp_kt, if_neg (by rw [z2]; omega)]; exact k2
      have K2 : bm_kt (bm_cp (bm_cp (bm_cp (bm_cp w1 (m + 24)) (m + 25)) (m + 26)) (m + 27)) (bm_sz w1 + 2) = 21 := by
        rw [bm_cp_kt, if_neg (by rw [z3]; omega)]; exact k3
      have K3 : bm_kt (bm_cp (bm_cp (bm_cp (bm_cp w1 (m + 24)) (m + 25)) (m + 26)) (m + 27)) (bm_sz w1 + 3) = 22 := k4
      have N0 : bm_kn (bm_cp (bm_cp (bm_cp (bm_cp w1 (m + 24)) (m + 25)) (m + 26)) (m + 27)) (bm_sz w1) = 216 := by
        rw [bm_cp_kn, if_neg (by rw [z3]; omega), bm_cp_kn, if_neg (by rw [z2]; omega), bm_cp_kn, if_neg (by rw [z1]; omega), bm_cp_kn, if_pos rfl]; exact S.n32
      have N1 : bm_kn (bm_cp (bm_cp (bm_cp (bm_cp w1 (m + 24)) (m + 25)) (m + 26)) (m + 27)) (bm_sz w1 + 1) = 216 := by
        rw [bm_cp_kn, if_neg (by rw [z3]; omega), bm_cp_kn, if_neg (by rw [z2]; omega), bm_cp_kn, if_pos z1.symm]; exact S1.n33
      have N2 : bm_kn (bm_cp (bm_cp (bm_cp (bm_cp w1 (m + 24)) (m + 25)) (m + 26)) (m + 27)) (bm_sz w1 + 2) = 72 := by
        rw [bm_cp_kn, if_neg (by rw [z3]; omega), bm_cp_kn, if_pos z2.symm]; exact S2.n34
      have N3 : bm_kn (bm_cp (bm_cp (bm_cp (bm_cp w1 (m + 24)) (m + 25)) (m + 26)) (m + 27)) (bm_sz w1 + 3) = 72 := by
        rw [bm_cp_kn, if_pos z3.symm]; exact S3.n35
      clear k1 k2 k3 k4 z1 z2 z3 G1 G2 G3 S1 S2 S3
      generalize bm_cp (bm_cp (bm_cp (bm_cp w1 (m + 24)) (m + 25)) (m + 26)) (m + 27) = w2 at G4 S4 z4 A0 A1 A2 A3 K0 K1 K2 K3 N0 N1 N2 N3 ⊢
      refine vb_X12_shorten_96 (ms_99 (d := d + 1202) (n := n) (L := L) w2 S4 k6 (by omega) (by rw [G4.gi (by omega) (fun z => z), T.2.2.2.2.2.2.2.1, hL]) (fun w3 F3 r3 => ?_) (L - n) n w2 (by omega) (Nat.le_refl _) q_fr.rf (fun x => ?_))
      · have S3 := S4.fr F3
        have e3 : bm_gi w3 (m + 23) k = ((L + 1 : Nat) : Int) := (F3.gi (by omega)).trans (by rw [G4.gi (by omega) (fun z => z), T.2.2.2.2.2.2.2.1, hL])
        have c12 : ∀ a j, m ≤ a → a ≤ m + 31 → bm_gi w2 a j = bm_gi w1 a j ∧ bm_gl w2 a j = bm_gl w1 a j := fun a j u v => ⟨G4.gi (by omega) (fun z => z), G4.gl (by omega) (fun z => z)⟩
        have r12 : ∀ x, mRw m w1 x w2 x := fun x => ⟨(c12 _ _ (by omega) (by omega)).1, (c12 _ _ (by omega) (by omega)).2, fun c _ => ⟨(c12 _ _ (by omega) (by omega)).1, (c12 _ _ (by omega) (by omega)).1⟩⟩
        have Sw : sh_Md m (bm_si w3 (m + 23) k (L : Int)) := S3
        -- the model without the row
        have hlen : (cur.eraseIdx n).length = L := by rw [List.length_eraseIdx_of_lt (by omega)]; omega
        have rows1 : ∀ i, i < cur.length → mrw m k i (cur.getD i y_r0) w1 ∧ y_rk (y_tF pr k).2.1.length (cur.getD i y_r0) ∧ (cur.getD i y_r0).1.length ≤ 3 := fun i hi => by
          have a := T.lk hi
          have b := T.2.2.2.2.2.2.2.2.2.2 i hi
          have n3 := T.2.2.2.2.2.2.1
          rw [y_st_F hk] at b n3
          exact ⟨b.1, b.2, by rw [b.2.1]; exact n3⟩
        have A4 : mA m B (y_st pr k (cur.eraseIdx n)) (bm_si w3 (m + 23) k (L : Int)) := by
          refine mA_rows hA hk Sw (by show m + 31 < bm_sz w3; rw [F3.sz, z4]; omega) (fun a j u v => ?_) (fun j _ _ => ?_) (fun j => ?_) (by rw [hlen]; omega) ?_ (fun i hi => ?_) (fun k' i hk' hi hk6 => ?_)
          · have := c12 a j (by omega) (by omega)
            exact ⟨(q_gi_ne (by omega)).trans ((F3.gi (by omega)).trans this.1), (F3.gl (by omega)).trans this.2⟩
          · rw [q_gi_ne (by omega), F3.gi (by omega)]
            exact (c12 m j (by omega) (by omega)).1
          · by_cases z : j = k
            · rw [if_pos z, z, q_gi_eq, hlen]
            · rw [if_neg z, q_gi_nk z, F3.gi (by omega)]
              exact (c12 _ _ (by omega) (by omega)).1
          · rw [y_ct_erase cur n (by omega)]
            have := y_cs_3 (T.lk (show n < cur.length by omega)).2.2 (by rw [(T.lk (show n < cur.length by omega)).2.1]; exact T.2.2.2.2.2.2.1)
            omega
          · rw [hlen] at hi
            have e : mRw m w1 (12 * k + (if i < n then i else i + 1)) (bm_si w3 (m + 23) k (L : Int)) (12 * k + i) := by
              have q := r3 (12 * k + i)
              have es : sf k n L (12 * k + i) = 12 * k + (if i < n then i else i + 1) := by
                unfold sf
                by_cases c : i < n
                · rw [if_pos c, if_neg (by omega)]
                · rw [if_neg c, if_pos ⟨by omega, by omega⟩]
                  omega
              rw [es] at q
              have q2 := (r12 _).tr q
              exact ⟨(q_gi_ne (by omega)).trans q2.1, q2.2.1, fun c hc => ⟨(q_gi_ne (by omega)).trans (q2.2.2 c hc).1, (q_gi_ne (by omega)).trans (q2.2.2 c hc).2⟩⟩
            rw [q_erase]
            by_cases c : i < n
            · rw [if_pos c] at e ⊢
              obtain ⟨b1, b2, b3⟩ := rows1 i (by omega)
              exact ⟨mRw.mrw b1 b3 e, b2⟩
            · rw [if_neg c] at e ⊢
              obtain ⟨b1, b2, b3⟩ := rows1 (i + 1) (by omega)
              exact ⟨mRw.mrw b1 b3 e, b2⟩
          · have q := r3 (12 * k' + i)
            have es : sf k n L (12 * k' + i) = 12 * k' + i := by
              unfold sf
              rw [if_neg (by omega)]
            rw [es] at q
            have q2 := (r12 _).tr q
            exact ⟨(q_gi_ne (by omega)).trans q2.1, q2.2.1, fun c hc => ⟨(q_gi_ne (by omega)).trans (q2.2.2 c hc).1, (q_gi_ne (by omega)).trans (q2.2.2 c hc).2⟩⟩
        have P4 : mP m (c + 4) (s + 576) w (bm_si w3 (m + 23) k (L : Int)) := by
          have p2 : mP m 4 576 w1 w2 := ⟨G4.mo (fun _ z => z.elim) (fun _ z => z) (Nat.le_refl _) (Nat.le_refl _), fun j _ _ => (c12 m j (by omega) (by omega)).1⟩
          have p3 : mP m 0 0 w2 (bm_si w3 (m + 23) k (L : Int)) := mP.of (A := fun x => m + 23 ≤ x ∧ x ≤ m + 27) ((F3.mo (fun x hx => by omega)).si (by omega)) (fun x hx => by omega)
          exact ((hPw.tr p2).tr p3).mo (Nat.le_refl _) (Nat.le_refl _)
        have m0 : bm_gi (bm_si w3 (m + 23) k (L : Int)) m 0 = 0 := by
          rw [q_gi_ne (by omega), F3.gi (by omega), (c12 m 0 (by omega) (by omega)).1]
          exact h0
        refine vb_X12_shorten_99 ?_
        simp only [bm_c0_v, bm_c1_v, bm_c2_v, bm_c3_v, bm_c4_v, bm_c5_v, bm_u_some, decide_eq_true_eq, true_and, and_true, and_self, Bool.not_eq_true, Bool.not_eq_true', decide_eq_false_iff_not, if_true, if_false, ite_true, ite_false, eq_self, S3.1, S3.1, S3.g31, S3.t31, S3.n31, bm_in, Int.toNat_natCast, e3, bm_w1 (show L < 2147483647 by omega), q_wI (x := ((L + 1 : Nat) : Int) - 1) ⟨by omega, by omega⟩]
        rw [if_pos (by omega)]
        have eL : ((L + 1 : Nat) : Int) - 1 = (L : Int) := by omega
        rw [eL]
        refine ⟨by omega, by omega, by omega, Sw.1, mp_foundT (d := d) A4 (k := k) (by rw [y_st_len]; exact hk) (by rw [y_st_F hk]; exact hP) (fun w5 A5 O5 z5 => ?_)⟩
        have e4 : ((y_st pr k (cur.eraseIdx n)).2.getD k y_t0).2.2 = cur.eraseIdx n := by rw [y_st_r hk, if_pos rfl]
        rw [bm_c1_v, y_st_F hk, e4]
        have em : (n : Int) + -1 = (n : Int) - 1 := by omega
        by_cases c2 : s_fn (y_tF pr k).2.2.2.2 (cur.eraseIdx n) (y_tF pr k).2.2.1 = s_fn (y_tF pr k).2.2.2.2 cur (y_tF pr k).2.2.1
        · rw [if_pos c2] at he
          rw [if_neg (by simp [c2]), q_wI (x := (n : Int) + -1) ⟨by omega, by omega⟩, em, ← c2]
          exact ih (c + 4) (s + 576) (cur.eraseIdx n) w5 (by rw [hlen]; omega) A5 ((P4.tr O5.mP).mo (Nat.le_refl _) (Nat.le_refl _)) (by omega) (by omega) (z5.trans m0) he
        · rw [if_neg c2] at he
          rw [if_pos (by simp [c2])]
          have S5 := A5.1
          have T5 := (A5.tab (k := k) (by rw [y_st_len]; exact hk)).1
          have e5 := T5.2.2.2.2.2.2.2.1
          rw [e4, hlen] at e5
          have s5 : bm_sz w1 + 4 ≤ bm_sz w5 := by
            have a := O5.1.1.1
            have b : bm_sz (bm_si w3 (m + 23) k (L : Int)) = bm_sz w2 := F3.sz
            omega
          have s3 : bm_sz (bm_si w3 (m + 23) k (L : Int)) = bm_sz w1 + 4 := by
            have b : bm_sz (bm_si w3 (m + 23) k (L : Int)) = bm_sz w2 := F3.sz
            omega
          -- the copies still stand
          have cp : ∀ x, x < 4 → (bm_kt w5 (bm_sz w1 + x) = bm_kt w2 (bm_sz w1 + x) ∧ bm_kn w5 (bm_sz w1 + x) = bm_kn w2 (bm_sz w1 + x)) ∧ ∀ j, bm_gi w5 (bm_sz w1 + x) j = bm_gi w2 (bm_sz w1 + x) j ∧ bm_gl w5 (bm_sz w1 + x) j = bm_gl w2 (bm_sz w1 + x) j := fun x hx => by
            refine ⟨⟨?_, ?_⟩, fun j => ⟨?_, ?_⟩⟩
            · rw [O5.1.kt (by omega)]
              show bm_kt w3 _ = _
              rw [F3.kt]
            · rw [O5.1.kn (by omega)]
              show bm_kn w3 _ = _
              rw [F3.kn]
            · rw [O5.1.gi (by omega) (by omega), q_gi_ne (by omega), F3.gi (by omega)]
            · rw [O5.1.gl (by omega) (by omega)]
              exact F3.gl (by omega)
          have K0' : bm_kt w5 (bm_sz w1) = 21 := ((cp 0 (by decide)).1.1).trans K0
          have K1' : bm_kt w5 (bm_sz w1 + 1) = 21 := ((cp 1 (by decide)).1.1).trans K1
          have K2' : bm_kt w5 (bm_sz w1 + 2) = 21 := ((cp 2 (by decide)).1.1).trans K2
          have K3' : bm_kt w5 (bm_sz w1 + 3) = 22 := ((cp 3 (by decide)).1.1).trans K3
          have N0' : bm_kn w5 (bm_sz w1) = 216 := ((cp 0 (by decide)).1.2).trans N0
          have N1' : bm_kn w5 (bm_sz w1 + 1) = 216 := ((cp 1 (by decide)).1.2).trans N1
          have N2' : bm_kn w5 (bm_sz w1 + 2) = 72 := ((cp 2 (by decide)).1.2).trans N2
          have N3' : bm_kn w5 (bm_sz w1 + 3) = 72 := ((cp 3 (by decide)).1.2).trans N3
          simp only [bm_c0_v, bm_c1_v, bm_c2_v, bm_c3_v, bm_c4_v, bm_c5_v, bm_u_some, decide_eq_true_eq, true_and, and_true, and_self, Bool.not_eq_true, Bool.not_eq_true', decide_eq_false_iff_not, if_true, if_false, ite_true, ite_false, eq_self, bm_si_kt, bm_si_kn, bm_si_gr, bm_ci_kt, bm_ci_kn, bm_ci_gr, S5.1, S5.1, S5.g31, S5.t31, S5.n31, S5.g32, S5.t32, S5.n32, S5.g33, S5.t33, S5.n33, S5.g34, S5.t34, S5.n34, bm_in, Int.toNat_natCast, e5, K0', K1', K2', N0', N1', N2', bm_w1 (show L < 2147483647 by omega), Int.toNat_zero]
          refine ⟨by omega, by omega, by decide, by omega, by decide, by omega, by decide, by omega, vb_X12_shorten_209 ?_⟩
          simp only [bm_c0_v, bm_c1_v, bm_c2_v, bm_c3_v, bm_c4_v, bm_c5_v, bm_u_some, decide_eq_true_eq, true_and, and_true, and_self, Bool.not_eq_true, Bool.not_eq_true', decide_eq_false_iff_not, if_true, if_false, ite_true, ite_false, eq_self, bm_si_kt, bm_si_kn, bm_si_gr, bm_ci_kt, bm_ci_kn, bm_ci_gr, S5.1, S5.1, S5.g35, S5.t35, S5.n35, bm_in, Int.toNat_natCast, K3', N3', Int.toNat_zero, em, q_wI (x := (n : Int) - 1) ⟨by omega, by omega⟩]
          refine ⟨by decide, by omega, ?_⟩
          have g5 : ∀ a j, m + 7 ≤ a → a ≤ m + 22 → bm_gi w5 a j = bm_gi w1 a j ∧ bm_gl w5 a j = bm_gl w1 a j := fun a j u v => by
            have q := c12 a j (by omega) (by omega)
            refine ⟨?_, ?_⟩
            · rw [O5.1.gi (by omega) (by omega), q_gi_ne (by omega), F3.gi (by omega)]
              exact q.1
            · rw [O5.1.gl (by omega) (by omega)]
              exact (F3.gl (by omega)).trans q.2
          have gm : ∀ j, j ≠ 0 → j ≠ 36 → bm_gi w5 m j = bm_gi w1 m j := fun j u v => by
            rw [O5.2 j u v, q_gi_ne (by omega), F3.gi (by omega)]
            exact (c12 m j (by omega) (by omega)).1
          have g23 : ∀ j, j ≠ k → bm_gi w5 (m + 23) j = bm_gi w1 (m + 23) j := fun j hj => by
            rw [O5.1.gi (by omega) (by omega), q_gi_nk hj, F3.gi (by omega)]
            exact (c12 _ _ (by omega) (by omega)).1
          have W24 : ∀ j, j < 216 → bm_gi (bm_cl (bm_ci (bm_ci (bm_ci (bm_si w5 (m + 23) k ((L + 1 : Nat) : Int)) (bm_sz w1) 0 (m + 24) 0 216) (bm_sz w1 + 1) 0 (m + 25) 0 216) (bm_sz w1 + 2) 0 (m + 26) 0 72) (bm_sz w1 + 3) 0 (m + 27) 0 72) (m + 24) j = bm_gi w1 (m + 24) j := fun j hj => by
            rw [bm_cl_gi, bm_ci_gi, if_neg (by omega), bm_ci_gi, if_neg (by omega), bm_ci_gi, if_pos ⟨rfl, by omega, by omega⟩, Nat.zero_add, Nat.sub_zero, q_gi_ne (by omega)]
            exact ((cp 0 (by decide)).2 j).1.trans (A0 j)
          have W25 : ∀ j, j < 216 → bm_gi (bm_cl (bm_ci (bm_ci (bm_ci (bm_si w5 (m + 23) k ((L + 1 : Nat) : Int)) (bm_sz w1) 0 (m + 24) 0 216) (bm_sz w1 + 1) 0 (m + 25) 0 216) (bm_sz w1 + 2) 0 (m + 26) 0 72) (bm_sz w1 + 3) 0 (m + 27) 0 72) (m + 25) j = bm_gi w1 (m + 25) j := fun j hj => by
            rw [bm_cl_gi, bm_ci_gi, if_neg (by omega), bm_ci_gi, if_pos ⟨rfl, by omega, by omega⟩, Nat.zero_add, Nat.sub_zero, bm_ci_gi, if_neg (by omega), q_gi_ne (by omega)]
            exact ((cp 1 (by decide)).2 j).1.trans (A1 j)
          have W26 : ∀ j, j < 72 → bm_gi (bm_cl (bm_ci (bm_ci (bm_ci (bm_si w5 (m + 23) k ((L + 1 : Nat) : Int)) (bm_sz w1) 0 (m + 24) 0 216) (bm_sz w1 + 1) 0 (m + 25) 0 216) (bm_sz w1 + 2) 0 (m + 26) 0 72) (bm_sz w1 + 3) 0 (m + 27) 0 72) (m + 26) j = bm_gi w1 (m + 26) j := fun j hj => by
            rw [bm_cl_gi, bm_ci_gi, if_pos ⟨rfl, by omega, by omega⟩, Nat.zero_add, Nat.sub_zero, bm_ci_gi, if_neg (by omega), bm_ci_gi, if_neg (by omega), q_gi_ne (by omega)]
            exact ((cp 2 (by decide)).2 j).1.trans (A2 j)
          have W27 : ∀ j, j < 72 → bm_gl (bm_cl (bm_ci (bm_ci (bm_ci (bm_si w5 (m + 23) k ((L + 1 : Nat) : Int)) (bm_sz w1) 0 (m + 24) 0 216) (bm_sz w1 + 1) 0 (m + 25) 0 216) (bm_sz w1 + 2) 0 (m + 26) 0 72) (bm_sz w1 + 3) 0 (m + 27) 0 72) (m + 27) j = bm_gl w1 (m + 27) j := fun j hj => by
            rw [bm_cl_gl, if_pos ⟨rfl, by omega, by omega⟩, Nat.zero_add, Nat.sub_zero]
            exact ((cp 3 (by decide)).2 j).2.trans (A3 j)
          have Wo : ∀ a j, a ≠ m + 24 → a ≠ m + 25 → a ≠ m + 26 → bm_gi (bm_cl (bm_ci (bm_ci (bm_ci (bm_si w5 (m + 23) k ((L + 1 : Nat) : Int)) (bm_sz w1) 0 (m + 24) 0 216) (bm_sz w1 + 1) 0 (m + 25) 0 216) (bm_sz w1 + 2) 0 (m + 26) 0 72) (bm_sz w1 + 3) 0 (m + 27) 0 72) a j = bm_gi (bm_si w5 (m + 23) k ((L + 1 : Nat) : Int)) a j := fun a j u1 u2 u3 => by
            rw [bm_cl_gi, bm_ci_gi, if_neg (fun z => u3 z.1), bm_ci_gi, if_neg (fun z => u2 z.1), bm_ci_gi, if_neg (fun z => u1 z.1)]
          have Wl : ∀ a j, a ≠ m + 27 → bm_gl (bm_cl (bm_ci (bm_ci (bm_ci (bm_si w5 (m + 23) k ((L + 1 : Nat) : Int)) (bm_sz w1) 0 (m + 24) 0 216) (bm_sz w1 + 1) 0 (m + 25) 0 216) (bm_sz w1 + 2) 0 (m + 26) 0 72) (bm_sz w1 + 3) 0 (m + 27) 0 72) a j = bm_gl w5 a j := fun a j u => by
            rw [bm_cl_gl, if_neg (fun z => u z.1)]
            rfl
          have SW : sh_Md m (bm_cl (bm_ci (bm_ci (bm_ci (bm_si w5 (m + 23) k ((L + 1 : Nat) : Int)) (bm_sz w1) 0 (m + 24) 0 216) (bm_sz w1 + 1) 0 (m + 25) 0 216) (bm_sz w1 + 2) 0 (m + 26) 0 72) (bm_sz w1 + 3) 0 (m + 27) 0 72) := S5
          have szW : bm_sz (bm_cl (bm_ci (bm_ci (bm_ci (bm_si w5 (m + 23) k ((L + 1 : Nat) : Int)) (bm_sz w1) 0 (m + 24) 0 216) (bm_sz w1 + 1) 0 (m + 25) 0 216) (bm_sz w1 + 2) 0 (m + 26) 0 72) (bm_sz w1 + 3) 0 (m + 27) 0 72) = bm_sz w5 := rfl
          have FW : q_fr (fun a => m + 23 ≤ a ∧ a ≤ m + 27) w5 (bm_cl (bm_ci (bm_ci (bm_ci (bm_si w5 (m + 23) k ((L + 1 : Nat) : Int)) (bm_sz w1) 0 (m + 24) 0 216) (bm_sz w1 + 1) 0 (m + 25) 0 216) (bm_sz w1 + 2) 0 (m + 26) 0 72) (bm_sz w1 + 3) 0 (m + 27) 0 72) := ⟨rfl, fun a j hn => ⟨(Wo a j (by omega) (by omega) (by omega)).trans (q_gi_ne (by omega)), Wl a j (by omega)⟩⟩
          generalize bm_cl (bm_ci (bm_ci (bm_ci (bm_si w5 (m + 23) k ((L + 1 : Nat) : Int)) (bm_sz w1) 0 (m + 24) 0 216) (bm_sz w1 + 1) 0 (m + 25) 0 216) (bm_sz w1 + 2) 0 (m + 26) 0 72) (bm_sz w1 + 3) 0 (m + 27) 0 72 = W at W24 W25 W26 W27 Wo Wl SW szW FW ⊢
          have rW : ∀ x, x < 72 → mRw m w1 x W x := fun x hx => ⟨W26 x hx, W27 x hx, fun c hc => ⟨W24 _ (by omega), W25 _ (by omega)⟩⟩
          have AW : mA m B (y_st pr k cur) W := by
            refine mA_rows hA hk SW (by rw [szW]; omega) (fun a j u v => ?_) (fun j u v => ?_) (fun j => ?_) l12 ct (fun i hi => ?_) (fun k' i hk' hi hk6 => rW _ (by omega))
            · have q := g5 a j u v
              exact ⟨(Wo a j (by omega) (by omega) (by omega)).trans ((q_gi_ne (by omega)).trans q.1), (Wl a j (by omega)).trans q.2⟩
            · exact (Wo m j (by omega) (by omega) (by omega)).trans ((q_gi_ne (by omega)).trans (gm j u v))
            · rw [Wo _ _ (by omega) (by omega) (by omega)]
              by_cases z : j = k
              · rw [if_pos z, z, q_gi_eq, hL]
              · rw [if_neg z, q_gi_nk z]
                exact g23 j z
            · obtain ⟨b1, b2, b3⟩ := rows1 i hi
              exact ⟨mRw.mrw b1 b3 (rW _ (by omega)), b2⟩
          have PW : mP m (c + 4) (s + 576) w W := ((P4.tr O5.mP).tr (mP.of FW (fun x hx => by omega))).mo (Nat.le_refl _) (Nat.le_refl _)
          exact ih (c + 4) (s + 576) cur W (by omega) AW PW (by omega) (by omega) ((FW.gi (by omega)).trans (z5.trans m0)) he
      · have e : sf k n n x = x := by
          unfold sf
          rw [if_neg (by omega)]
        rw [e]
        exact mRw.rf
    · rw [s_sh_1 c1] at he
      rw [if_pos (by omega)]
      exact ⟨by omega, hq cur w1 (hPw.mo (by omega) (by omega)) h0 hA he.symm⟩
theorem mo_shorten {x : Int} (h : mA m B pr w) (hp : y_pls pr) (q1 : 0 ≤ x ∧ x < (pr.2.length : Int) → ∀ w', mP m 48 6912 w w' → bm_gi w' m 0 = 0 → mA m B (y_st pr x.toNat (y_so pr x.toNat)) w' → Φ (.inl (some (bm_i ((y_so pr x.toNat).length : Int)))) w') (q0 : ¬ (0 ≤ x ∧ x < (pr.2.length : Int)) → ∀ v w', mO m 0 0 w w' → bm_gi w' m 0 = 1 → Φ (.inl (some (bm_i v))) w') : bm_Call bm_pg (d + 1205) y_X12_shorten [bm_r (some m), bm_i x] w Φ := by
  have h0 := h.thr (v := 0)
  have z0 : mO m 0 0 w (bm_si w m 0 0) := mO.rf.thr
  have e0 : bm_gi (bm_si w m 0 0) m 0 = 0 := q_gi_eq
  refine vc_X12_shorten ?_
  simp only [bm_c0_v, bm_c1_v, bm_c2_v, bm_c3_v, bm_c4_v, bm_c5_v, bm_u_some, decide_eq_true_eq, true_and, and_true, and_self, Bool.not_eq_true, Bool.not_eq_true', decide_eq_false_iff_not, if_true, if_false, ite_true, ite_false, eq_self, h.1.1, h0.1.1, h0.isTable (d := d + 1202), bm_c1_v]
  by_cases c : 0 ≤ x ∧ x < (pr.2.length : Int)
  · rw [if_pos (show ¬ (if 0 ≤ x ∧ x < (pr.2.length : Int) then (1 : Int) else 0) = 0 by rw [if_pos c]; decide)]
    obtain ⟨k, rfl⟩ : ∃ k : Nat, x = (k : Int) := ⟨x.toNat, by omega⟩
    have hk : k < pr.2.length := by omega
    have p50 : (y_tF pr k).2.2.1 ≤ 50 := hp _ (h.2.2.2.1.2.2.1 k hk).2.2.1
    have q1 := q1 c
    rw [Int.toNat_natCast] at q1
    refine mp_foundT (d := d) h0 hk p50 (fun w2 A2 O2 z2 => ?_)
    rw [bm_c1_v]
    have T := (A2.tab hk).1
    have k6 := T.2.1
    have l12 := T.2.2.2.2.2.2.2.2.1
    have S := A2.1
    simp only [bm_c0_v, bm_c1_v, bm_c2_v, bm_c3_v, bm_c4_v, bm_c5_v, bm_u_some, decide_eq_true_eq, true_and, and_true, and_self, Bool.not_eq_true, Bool.not_eq_true', decide_eq_false_iff_not, if_true, if_false, ite_true, ite_false, eq_self, S.1, S.g31, S.t31, S.n31, bm_in, Int.toNat_natCast, T.2.2.2.2.2.2.2.1, q_wI (x := ((pr.2.getD k y_t0).2.2.length : Int) - 1) ⟨by omega, by omega⟩]
    refine ⟨by omega, ms_34 (d := d) (B := B) (rows := (pr.2.getD k y_t0).2.2) hk p50 w (fun rows' w' a1 a2 a3 a4 => ?_) (pr.2.getD k y_t0).2.2.length 0 0 (pr.2.getD k y_t0).2.2 w2 (Nat.le_refl _) (by rw [y_st_self hk]; exact A2) (z0.tr O2).mP (by omega) (by omega) (z2.trans e0) rfl⟩
    rw [a4] at a3 ⊢
    exact q1 w' a1 a2 a3
  · rw [if_neg (show ¬ ¬ (if 0 ≤ x ∧ x < (pr.2.length : Int) then (1 : Int) else 0) = 0 by rw [if_neg c]; decide)]
    rw [mp_no (d := d + 1203) h0.1.1, bm_c1_v]
    exact q0 c _ _ z0.thr q_gi_eq
end CR
