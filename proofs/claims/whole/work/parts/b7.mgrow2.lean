section MG
variable {d m k : Nat} {B : Int → Int} {pr : y_pr} {w w' : bm_W} {Φ : bm_Rt → bm_W → Prop}
/-- the model behind a case that is added -/
theorem mg_fin {v : Int} {o : Option Int} {wp : bm_W} (h : mA m B pr w) (hk : k < pr.2.length) (ok : y_gok pr k) (ho : y_gw pr k = o) (hv : o.getD 0 = v) (S : sh_Md m wp) (hs : m + 31 < bm_sz wp)
    (e : ∀ a j, m + 7 ≤ a → a ≤ m + 22 → bm_gi wp a j = bm_gi w a j ∧ bm_gl wp a j = bm_gl w a j) (hm : ∀ j, j ≠ 0 → j ≠ 36 → bm_gi wp m j = bm_gi w m j)
    (e23 : ∀ j, bm_gi wp (m + 23) j = if j = k then ((pr.2.getD k y_t0).2.2.length : Int) + 1 else bm_gi w (m + 23) j)
    (ec : ∀ c, c < 3 → c < (y_tF pr k).2.1.length → bm_gi wp (m + 24) ((12 * k + (pr.2.getD k y_t0).2.2.length) * 3 + c) = y_gv pr k c ∧ bm_gi wp (m + 25) ((12 * k + (pr.2.getD k y_t0).2.2.length) * 3 + c) = y_gv pr k c)
    (eo : ∀ j, (j < (12 * k + (pr.2.getD k y_t0).2.2.length) * 3 ∨ (12 * k + (pr.2.getD k y_t0).2.2.length) * 3 + 3 ≤ j) → bm_gi wp (m + 24) j = bm_gi w (m + 24) j ∧ bm_gi wp (m + 25) j = bm_gi w (m + 25) j)
    (e26 : ∀ j, bm_gi wp (m + 26) j = if j = 12 * k + (pr.2.getD k y_t0).2.2.length then (if o.isSome = true then 2 else 21) else bm_gi w (m + 26) j)
    (e27 : ∀ j, bm_gl wp (m + 27) j = if j = 12 * k + (pr.2.getD k y_t0).2.2.length then v else bm_gl w (m + 27) j) : mA m B (y_gp pr k) wp := by
  obtain ⟨T, fn, lc, fk⟩ := h.tab hk
  have n3 := T.2.2.2.2.2.2.1
  have ct := h.ct k hk
  obtain ⟨t1, t2, t3, t4⟩ := h.2.2.2.1
  have ok2 := ok.2.1
  refine ⟨S, hs, h.fs (fun a j u x => e a j u (by omega)) (hm 18 (by decide) (by decide)) (hm 11 (by decide) (by decide)), ⟨by rw [y_gp_len]; exact (hm 28 (by decide) (by decide)).trans t1, by rw [y_gp_len]; exact t2, fun k' hk' => ?_, ?_⟩, fun g hg => h.2.2.2.2.1 g hg, fun g hg => h.2.2.2.2.2 g hg⟩
  · rw [y_gp_len] at hk'
    obtain ⟨⟨x1, x2⟩, x3, x4, x5⟩ := t3 k' hk'
    have en : ((y_gp pr k).2.getD k' y_t0).1 = (pr.2.getD k' y_t0).1 := by
      rw [y_gp_at hk]
      by_cases c : k' = k
      · subst c; rw [if_pos rfl]
      · rw [if_neg c]
    unfold mtb
    rw [en, y_gp_f hk, y_gp_r hk]
    refine ⟨⟨x1, (e _ _ (by omega) (by omega)).2.trans x2⟩, (e _ _ (by omega) (by omega)).1.trans x3, x4, ?_⟩
    obtain ⟨z1, z2, z3, z4⟩ := x5
    have row : ∀ i, i < (pr.2.getD k' y_t0).2.2.length → 12 * k' + i ≠ 12 * k + (pr.2.getD k y_t0).2.2.length → mrw m k' i ((pr.2.getD k' y_t0).2.2.getD i y_r0) wp := fun i hi ne => by
      obtain ⟨⟨y1, y2, y3⟩, y4, -, -⟩ := z4 i hi
      have y3n : (((pr.2.getD k' y_t0).2.2.getD i y_r0).1).length ≤ 3 := by
        have T' := (h.tab hk').1
        rw [(T'.lk hi).2.1]
        exact T'.2.2.2.2.2.2.1
      refine ⟨fun c hc => ?_, ?_, ?_⟩
      · have q := eo ((12 * k' + i) * 3 + c) (by omega)
        rw [q.1, q.2]
        exact y1 c hc
      · rw [e26, if_neg ne]; exact y2
      · rw [e27, if_neg ne]; exact y3
    by_cases c : k' = k
    · subst c
      rw [if_pos rfl]
      refine ⟨?_, ?_, ?_, fun i hi => ?_⟩
      · rw [e23, if_pos rfl, List.length_append, List.length_singleton]
        omega
      · rw [List.length_append, List.length_singleton]
        omega
      · rw [y_ct_app, y_gR_cs fk n3]
        have := ok.2.2
        omega
      · rw [List.length_append, List.length_singleton] at hi
        by_cases z : i = (pr.2.getD k' y_t0).2.2.length
        · rw [q_gde z, z]
          refine ⟨⟨fun c hc => ?_, ?_, ?_⟩, y_gR_k fk⟩
          · rw [y_gR_len] at hc
            rw [y_gR_c fk]
            exact ec c (by omega) hc
          · rw [e26, if_pos rfl]
            unfold y_gR
            simp only
            rw [ho]
            cases o with
            | none => rfl
            | some y => rfl
          · rw [e27, if_pos rfl]
            unfold y_gR
            simp only
            rw [ho, hv]
        · have il : i < (pr.2.getD k' y_t0).2.2.length := by omega
          rw [q_gdl il]
          exact ⟨row i il (by omega), (z4 i il).2⟩
    · rw [if_neg c]
      refine ⟨?_, z2, z3, fun i hi => ⟨row i hi (by omega), (z4 i hi).2⟩⟩
      rw [e23, if_neg c]; exact z1
  · show y_ds (t_V B) ((pr.2.set k _).map (·.1))
    rw [q_mapset (f := fun x : y_tb => x.1) (x := ((pr.2.getD k y_t0).1, (pr.2.getD k y_t0).2.1, (pr.2.getD k y_t0).2.2 ++ [y_gR pr k])) (z := y_t0) pr.2 k hk rfl]
    exact t4
theorem mo_grow {x : Int} (h : mA m B pr w) (h37 : bm_gi w m 37 = 0) (q1 : 0 ≤ x ∧ x < (pr.2.length : Int) → y_gok pr x.toNat → ∀ w', mP m 2 6 w w' → bm_gi w' m 0 = 0 → mA m B (y_gp pr x.toNat) w' → Φ (.inl (some (bm_i (y_ct (pr.2.getD x.toNat y_t0).2.2 + 1)))) w') (q2 : 0 ≤ x ∧ x < (pr.2.length : Int) → ¬ y_gok pr x.toNat → ∀ v w', mO m 1 3 w w' → bm_gi w' m 0 = 2 → Φ (.inl (some (bm_i v))) w') (q0 : ¬ (0 ≤ x ∧ x < (pr.2.length : Int)) → ∀ v w', mO m 0 0 w w' → bm_gi w' m 0 = 1 → Φ (.inl (some (bm_i v))) w') : bm_Call bm_pg (d + 1203) y_X12_grow [bm_r (some m), bm_i x] w Φ := by
  have h0 := h.thr (v := 0)
  have z0 : mO m 0 0 w (bm_si w m 0 0) := mO.rf.thr
  refine vc_X12_grow ?_
  simp only [bm_c0_v, bm_c1_v, bm_c2_v, bm_c3_v, bm_c4_v, bm_c5_v, bm_u_some, decide_eq_true_eq, true_and, and_true, and_self, Bool.not_eq_true, Bool.not_eq_true', decide_eq_false_iff_not, if_true, if_false, ite_true, ite_false, eq_self, h.1.1, h0.1.1, h0.isTable (d := d + 1200), bm_c1_v]
  by_cases c : 0 ≤ x ∧ x < (pr.2.length : Int)
  · rw [if_pos (show ¬ (if 0 ≤ x ∧ x < (pr.2.length : Int) then (1 : Int) else 0) = 0 by rw [if_pos c]; decide)]
    obtain ⟨k, rfl⟩ : ∃ k : Nat, x = (k : Int) := ⟨x.toNat, by omega⟩
    have hk : k < pr.2.length := by omega
    have q1 := q1 c
    have q2 := q2 c
    rw [Int.toNat_natCast] at q1 q2
    obtain ⟨T0, fn0, -, -⟩ := h0.tab hk
    have k6 := T0.2.1
    have f6 := T0.2.2.2.1
    have hg := (h.2.2.2.1.2.2.1 k hk).2.2.1
    simp only [bm_c0_v, bm_c1_v, bm_c2_v, bm_c3_v, bm_c4_v, bm_c5_v, bm_u_some, decide_eq_true_eq, true_and, and_true, and_self, Bool.not_eq_true, Bool.not_eq_true', decide_eq_false_iff_not, if_true, if_false, ite_true, ite_false, eq_self, h0.1.1, h0.1.g30, h0.1.t30, h0.1.n30, bm_in, Int.toNat_natCast, T0.2.2.1]
    refine ⟨by omega, h0.proposed (d := d + 1198) hg (fun w2 A2 G2 => ?_)⟩
    rw [bm_c1_v]
    have s0 := h0.2.1
    have O2 : mO m 1 3 w w2 := ⟨(z0.1.tr (G2.mo (fun a z => by omega) (fun _ z => z) (Nat.le_refl _) (Nat.le_refl _))).mo (fun _ z => z) (fun _ z => z) (by omega) (by omega), fun k a b => (G2.gi (show m < bm_sz (bm_si w m 0 0) by omega) (by omega)).trans (z0.2 k a b)⟩
    obtain ⟨T2, fn2, -, fk⟩ := A2.tab hk
    have ct := A2.ct k hk
    have l12 := T2.2.2.2.2.2.2.2.2.1
    have S2 := A2.1
    have no2 : ¬ y_gok pr k → bm_Call bm_pg (d + 1202) y_X12_no [bm_r (some m), bm_i 2] w2 (fun r3 w3 => bm_c1 (fun x3 => Φ (.inl (some (bm_i x3))) w3) (fun E => Φ (.inr E) w3) r3) := fun no => by
      rw [mp_no (d := d + 1201) S2.1, bm_c1_v]
      exact q2 no _ _ O2.thr q_gi_eq
    have ppr := y_pp_rng (pr := pr) (f := (pr.2.getD k y_t0).2.1) fk fn2.2.2.1 fn2.2.1.2.1
    by_cases p0 : y_pp pr (pr.2.getD k y_t0).2.1 = -1
    · rw [if_pos (by rw [p0])]
      exact ⟨S2.1, no2 (fun z => by have := z.1; omega)⟩
    · rw [if_neg (by simpa using p0)]
      simp only [bm_c0_v, bm_c1_v, bm_c2_v, bm_c3_v, bm_c4_v, bm_c5_v, bm_u_some, decide_eq_true_eq, true_and, and_true, and_self, Bool.not_eq_true, Bool.not_eq_true', decide_eq_false_iff_not, if_true, if_false, ite_true, ite_false, eq_self, S2.1, S2.1, S2.g31, S2.t31, S2.n31, bm_in, Int.toNat_natCast, T2.2.2.2.2.2.2.2.1]
      refine ⟨by omega, ?_⟩
      by_cases p1 : (pr.2.getD k y_t0).2.2.length = 12
      · rw [if_pos (by omega)]
        exact no2 (fun z => by have := z.2.1; omega)
      · rw [if_neg (by omega), T2.cases (d := d + 1200), bm_c1_v]
        by_cases p2 : y_ct (pr.2.getD k y_t0).2.2 = 100
        · rw [if_neg (fun z => z p2)]
          exact ⟨S2.1, no2 (fun z => by have := z.2.2; omega)⟩
        · rw [if_pos p2]
          have ok : y_gok pr k := ⟨by omega, by omega, by omega⟩
          have n1 := fn2.2.2.1
          have ip := fn2.2.1
          have n3 := ip.2.1
          have cs := y_cs_3 (y_rg_lk fk) (by rw [y_rg_len]; exact n3)
          have ppu : y_pp pr (pr.2.getD k y_t0).2.1 < 2147483648 := by
            rcases ppr with z | z
            · omega
            · have e : y_cs (y_rg (pr.1.getD (pr.2.getD k y_t0).2.1 y_f0).2.1) = y_cs (y_rg (y_tF pr k).2.1) := rfl
              omega
          refine ⟨S2.1, mm_rowOf (d := d + 1200) S2 A2.2.1 ip f6 fk n1 ok.1 ppu (fun w3 G3 kt kn sz vals => ?_)⟩
          rw [bm_c3_v]
          have s2 := A2.2.1
          have A3 : mA m B pr w3 := A2.far G3 (fun a _ _ z => z) (fun z => z)
          have S3 := A3.1
          have T3 := (A3.tab hk).1
          have fn3 := (A3.tab hk).2.1
          simp only [bm_c0_v, bm_c1_v, bm_c2_v, bm_c3_v, bm_c4_v, bm_c5_v, bm_u_some, decide_eq_true_eq, true_and, and_true, and_self, Bool.not_eq_true, Bool.not_eq_true', decide_eq_false_iff_not, if_true, if_false, ite_true, ite_false, eq_self, S3.1, S3.1, S3.g31, S3.t31, S3.n31, bm_in, Int.toNat_natCast, T3.2.2.2.2.2.2.2.1, bm_w12 k6, bm_wN (show 12 * k + (pr.2.getD k y_t0).2.2.length < 2147483648 by omega)]
          refine ⟨by omega, ?_⟩
          have lo3 : ∀ c, c < (y_tF pr k).2.1.length → bm_gi w3 (bm_sz w2) c = y_gv pr k c := fun c hc => by
            have := vals c (by omega)
            rw [if_pos hc] at this
            exact this
          refine mg_88 (d := d + 1201) w3 S3 f6 fn3.2.1.1 (show 12 * k + (pr.2.getD k y_t0).2.2.length < 72 by omega) s2 kt kn lo3 (fun w4 F4 c4 o4 => ?_) 3 0 w3 rfl q_fr.rf (fun x hx => by omega) (fun j _ => ⟨rfl, rfl⟩)
          have S4 : sh_Md m w4 := S3.fr F4
          obtain ⟨-, -, -, -, -, -, -, nn, hnn, hmq⟩ := fn3
          have hm := hmq w4 (fun a j u v _ => F4.gi (by omega)) (fun x _ => ⟨F4.gi (by omega), F4.gi (by omega)⟩) S4
          have kt4 : bm_kt w4 (bm_sz w2) = 21 := by rw [F4.kt]; exact kt
          have kn4 : bm_kn w4 (bm_sz w2) = 3 := by rw [F4.kn]; exact kn
          have eD : (y_tF pr k).2.2.2.2 (q_abc (bm_gi w4 (bm_sz w2) 0) (bm_gi w4 (bm_sz w2) 1) (bm_gi w4 (bm_sz w2) 2)) (-1) = (y_tF pr k).2.2.2.2 (y_gv pr k) (-1) := (A3.tab hk).2.2.1 _ _ (-1) (fun i hi => by
            have a := lo3 i hi
            rcases (show i = 0 ∨ i = 1 ∨ i = 2 by omega) with rfl | rfl | rfl
            · exact (F4.gi (by omega)).trans a
            · exact (F4.gi (by omega)).trans a
            · exact (F4.gi (by omega)).trans a)
          -- the end
          have tail : ∀ (v : Int) (o : Option Int) (w5 : bm_W), md_Q m ((y_tF pr k).2.2.2.2 (y_gv pr k) (-1)).2 w4 w5 → y_gw pr k = o → o.getD 0 = v → ∀ (wp : bm_W) (res : Int), (res = if o.isSome = true then 2 else 21) → wp = bm_si (bm_si (bm_sq w5 (m + 27) (12 * k + (pr.2.getD k y_t0).2.2.length) v) (m + 26) (12 * k + (pr.2.getD k y_t0).2.2.length) res) (m + 23) k (((pr.2.getD k y_t0).2.2.length + 1 : Nat) : Int) → bm_Call bm_pg (d + 1202) y_X12_cases [bm_r (some m), bm_i (k : Int)] wp (fun r2 w2 => bm_c1 (fun x2 => Φ (.inl (some (bm_i x2))) w2) (fun E => Φ (.inr E) w2) r2) := fun v o w5 Q5 ho hv wp res hres hwp => by
            obtain ⟨q1', q2', q3', q4', q5'⟩ := Q5
            have F5 : q_fr (fun a => a = m ∨ (m + 23 ≤ a ∧ a ≤ m + 29)) w3 wp := by
              rw [hwp]
              exact ((((F4.mo (fun a z => by omega)).tr (q1'.mo (fun a z => by omega))).sq (Or.inr (by omega))).si (Or.inr (by omega))).si (Or.inr (by omega))
            have em : ∀ j, j ≠ 36 → bm_gi wp m j = bm_gi w3 m j := fun j hj => by
              rw [hwp, q_gi_ne (by omega), q_gi_ne (by omega)]
              exact (q2' j hj).trans (F4.gi (by omega))
            have g3 : ∀ a j, a ≤ m + 31 → bm_gi w3 a j = bm_gi w2 a j ∧ bm_gl w3 a j = bm_gl w2 a j := fun a j ha => ⟨G3.gi (by omega) (fun z => z), G3.gl (by omega) (fun z => z)⟩
            have Sp : sh_Md m wp := S3.fr F5
            have fin := mg_fin (wp := wp) A3 hk ok ho hv Sp (by rw [F5.sz]; omega) (fun a j u x => ⟨F5.gi (by omega), F5.gl (by omega)⟩) (fun j a b => em j b) (fun j => ?_) (fun c c3 cn => ?_) (fun j hj => ?_) (fun j => ?_) (fun j => ?_)
            · have Tp := (fin.tab (k := k) (by rw [y_gp_len]; exact hk)).1
              rw [Tp.cases (d := d + 1200), bm_c1_v]
              have er : y_ct ((y_gp pr k).2.getD k y_t0).2.2 = y_ct (pr.2.getD k y_t0).2.2 + 1 := by
                rw [y_gp_r hk, if_pos rfl, y_ct_app, y_gR_cs fk n3]
              rw [er]
              have P2 : mP m 1 3 w w2 := O2.mP
              have P3 : mP m 1 3 w2 w3 := ⟨G3.mo (fun _ z => z.elim) (fun _ z => z) (Nat.le_refl _) (Nat.le_refl _), fun j _ _ => (g3 m j (by omega)).1⟩
              have P5 : mP m 0 0 w3 wp := ⟨q_gw.of (F5.mo (fun a z => by omega)), fun j a b => em j b⟩
              refine q1 ok wp (((P2.tr P3).tr P5).mo (by omega) (by omega)) ?_ fin
              have e20 : bm_gi w2 m 0 = 0 := (G2.gi (show m < bm_sz (bm_si w m 0 0) by omega) (by omega)).trans q_gi_eq
              rw [em 0 (by decide), (g3 m 0 (by omega)).1]
              exact e20
            · rw [hwp]
              by_cases z : j = k
              · rw [if_pos z, z, q_gi_eq]
                omega
              · rw [if_neg z, q_gi_nk z, q_gi_ne (by omega)]
                exact (q1'.gi (by omega)).trans (F4.gi (by omega))
            · rw [hwp, q_gi_ne (by omega), q_gi_ne (by omega), q_gi_ne (by omega), q_gi_ne (by omega)]
              have a := c4 c c3 cn
              exact ⟨(q1'.gi (by omega)).trans a.1, (q1'.gi (by omega)).trans a.2⟩
            · rw [hwp, q_gi_ne (by omega), q_gi_ne (by omega), q_gi_ne (by omega), q_gi_ne (by omega)]
              have a := o4 j hj
              exact ⟨(q1'.gi (by omega)).trans a.1, (q1'.gi (by omega)).trans a.2⟩
            · rw [hwp, q_gi_ne (by omega)]
              by_cases z : j = 12 * k + (pr.2.getD k y_t0).2.2.length
              · rw [if_pos z, z, q_gi_eq, hres]
              · rw [if_neg z, q_gi_nk z]
                exact (q1'.gi (by omega)).trans (F4.gi (by omega))
            · rw [hwp]
              show bm_gl (bm_sq w5 (m + 27) (12 * k + (pr.2.getD k y_t0).2.2.length) v) (m + 27) j = _
              by_cases z : j = 12 * k + (pr.2.getD k y_t0).2.2.length
              · rw [if_pos z, z, q_gl_eq]
              · rw [if_neg z, q_gl_nk z]
                exact (q1'.gl (by omega)).trans (F4.gl (by omega))
          have t23 : ∀ (w5 : bm_W) tr, md_Q m tr w4 w5 → bm_gi w5 (m + 23) k = ((pr.2.getD k y_t0).2.2.length : Int) := fun w5 tr Q5 => (Q5.1.gi (by omega)).trans ((F4.gi (by omega)).trans T3.2.2.2.2.2.2.2.1)
          refine vb_X12_grow_88 ?_
          rw [if_pos (by decide)]
          simp only [bm_c0_v, bm_c1_v, bm_c2_v, bm_c3_v, bm_c4_v, bm_c5_v, bm_u_some, decide_eq_true_eq, true_and, and_true, and_self, Bool.not_eq_true, Bool.not_eq_true', decide_eq_false_iff_not, if_true, if_false, ite_true, ite_false, eq_self, S4.1, S4.1, S4.g35, S4.t35, S4.n35]
          refine mp_run (w0 := w4) (d := d + 1201) S4 f6 rfl hm (by omega) q_fr.rf ⟨kt4, by rw [kn4]; decide⟩ (by omega) (fun v hv w5 Q5 h36 => ?_) (fun hv w5 Q5 h36 => ?_)
          · rw [eD] at hv Q5
            rw [bm_c2_v]
            have S5 : sh_Md m w5 := S4.fr Q5.1
            have Sa : sh_Md m (bm_sq w5 (m + 27) (12 * k + (pr.2.getD k y_t0).2.2.length) v) := S5
            have Sb : sh_Md m (bm_si (bm_sq w5 (m + 27) (12 * k + (pr.2.getD k y_t0).2.2.length) v) (m + 26) (12 * k + (pr.2.getD k y_t0).2.2.length) 2) := S5
            have Sc : sh_Md m (bm_si (bm_si (bm_sq w5 (m + 27) (12 * k + (pr.2.getD k y_t0).2.2.length) v) (m + 26) (12 * k + (pr.2.getD k y_t0).2.2.length) 2) (m + 23) k (((pr.2.getD k y_t0).2.2.length + 1 : Nat) : Int)) := S5
            have g23 : bm_gi (bm_si (bm_sq w5 (m + 27) (12 * k + (pr.2.getD k y_t0).2.2.length) v) (m + 26) (12 * k + (pr.2.getD k y_t0).2.2.length) 2) (m + 23) k = ((pr.2.getD k y_t0).2.2.length : Int) := (q_gi_ne (by omega)).trans (t23 w5 _ Q5)
            have g36 : bm_gi (bm_sq w5 (m + 27) (12 * k + (pr.2.getD k y_t0).2.2.length) v) m 36 = 0 := h36
            have tl := tail v (some v) w5 Q5 hv rfl _ 2 rfl rfl
            simp only [bm_c0_v, bm_c1_v, bm_c2_v, bm_c3_v, bm_c4_v, bm_c5_v, bm_u_some, decide_eq_true_eq, true_and, and_true, and_self, Bool.not_eq_true, Bool.not_eq_true', decide_eq_false_iff_not, if_true, if_false, ite_true, ite_false, eq_self, S5.t35, S5.n35, bm_in, Int.toNat_natCast, Sa.1, Sa.1, Sa.g34, Sa.t34, Sa.n34, g36, Sb.1, Sb.1, Sb.g31, Sb.t31, Sb.n31, g23, bm_w1 (show (pr.2.getD k y_t0).2.2.length < 2147483647 by omega), Sc.1]
            exact ⟨by omega, by omega, by omega, by omega, tl⟩
          · rw [eD] at hv Q5
            rw [bm_c2_v]
            have S5 : sh_Md m w5 := S4.fr Q5.1
            have Sa : sh_Md m (bm_sq w5 (m + 27) (12 * k + (pr.2.getD k y_t0).2.2.length) 0) := S5
            have Sb : sh_Md m (bm_si (bm_sq w5 (m + 27) (12 * k + (pr.2.getD k y_t0).2.2.length) 0) (m + 26) (12 * k + (pr.2.getD k y_t0).2.2.length) 21) := S5
            have Sc : sh_Md m (bm_si (bm_si (bm_sq w5 (m + 27) (12 * k + (pr.2.getD k y_t0).2.2.length) 0) (m + 26) (12 * k + (pr.2.getD k y_t0).2.2.length) 21) (m + 23) k (((pr.2.getD k y_t0).2.2.length + 1 : Nat) : Int)) := S5
            have g23 : bm_gi (bm_si (bm_sq w5 (m + 27) (12 * k + (pr.2.getD k y_t0).2.2.length) 0) (m + 26) (12 * k + (pr.2.getD k y_t0).2.2.length) 21) (m + 23) k = ((pr.2.getD k y_t0).2.2.length : Int) := (q_gi_ne (by omega)).trans (t23 w5 _ Q5)
            have g36 : bm_gi (bm_sq w5 (m + 27) (12 * k + (pr.2.getD k y_t0).2.2.length) 0) m 36 = 1 := h36
            have tl := tail 0 none w5 Q5 hv rfl _ 21 rfl rfl
            simp only [bm_c0_v, bm_c1_v, bm_c2_v, bm_c3_v, bm_c4_v, bm_c5_v, bm_u_some, decide_eq_true_eq, true_and, and_true, and_self, Bool.not_eq_true, Bool.not_eq_true', decide_eq_false_iff_not, if_true, if_false, ite_true, ite_false, eq_self, S5.t35, S5.n35, bm_in, Int.toNat_natCast, Sa.1, Sa.1, Sa.g34, Sa.t34, Sa.n34, g36, Sb.1, Sb.1, Sb.g31, Sb.t31, Sb.n31, g23, bm_w1 (show (pr.2.getD k y_t0).2.2.length < 2147483647 by omega), Sc.1]
            rw [if_neg (by decide)]
            exact ⟨by omega, by omega, by omega, by omega, tl⟩
  · rw [if_neg (show ¬ ¬ (if 0 ≤ x ∧ x < (pr.2.length : Int) then (1 : Int) else 0) = 0 by rw [if_neg c]; decide)]
    rw [mp_no (d := d + 1201) h0.1.1, bm_c1_v]
    exact q0 c _ _ z0.thr q_gi_eq
end MG
