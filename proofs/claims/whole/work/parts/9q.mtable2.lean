/-! ===== the model: meaning of tables, from their first token on ===== -/
section MN
variable {d m N p q r f k : Nat} {B : Int → Int} {w w0 w' : bm_W} {Φ : bm_Rt → bm_W → Prop} {ins : List y_in} {rows : List y_rw} {pr : y_pr}
theorem mm_table (h : ml m N B pr p w) (h9 : bm_gi w m 9 = ((p + 1 : Nat) : Int)) (hp : p + 1 ≤ N) (hk : t_K B p = 12) (hf : f_tab (t_K B) (false, p + 1) = (false, r)) (hfk : ∀ g, g < pr.1.length → y_fk (pr.1.getD g y_f0).2.1)
    (hq : ∀ x w', mG m 0 w w' → ma m w B (y_tab (t_K B) (t_V B) pr p) x w' (fun pr' => ml m N B pr' r w' ∧ bm_gi w' m 9 = ((r - 1 : Nat) : Int)) → Φ (.inl (some (bm_i x))) w') : bm_Call bm_pg (d + 11) y_X12_table [bm_r (some m), bm_i (p : Int)] w Φ := by
  obtain ⟨a1, a2, a3, a4, a5, ⟨n, a6, a7⟩, a8⟩ := h
  have N5 := a1.2.2.1
  obtain ⟨q, k1, k2, k3, k4, hrw, k5, rfl⟩ := f_tab_inv hf
  have p2N : p + 2 ≤ N := a1.nx hp (by omega)
  have p3N : p + 3 ≤ N := a1.nx p2N (by omega)
  have p4N : p + 4 ≤ N := a1.nx p3N (by omega)
  have p5N : p + 5 ≤ N := a1.nx p4N (by omega)
  have rgq := f_far_rws (K := t_K B) a1.2.2.2.2 f_T (false, p + 5) p5N
  rw [hrw] at rgq
  simp only at rgq
  have Ir : y_I (t_K B) (q + 1) = y_I (t_K B) p := by
    have := (f_noi_tab (K := t_K B) (false, p + 1) (by rw [hf])).2
    rw [hf] at this
    exact this.trans (y_I_no (by omega))
  unfold y_tab at hq
  have h28 : bm_gi w m 28 = (pr.2.length : Int) := a4.1
  refine vc_X12_table ?_
  simp only [a1.1.1.1, h28, true_and]
  by_cases c6 : 6 ≤ pr.2.length
  · rw [if_pos c6] at hq
    have := a4.2.1
    rw [if_neg (by simp; omega)]
    refine mm_wrong (d := d + 9) a1 (by omega : p ≤ N) (fun a => ?_)
    rw [bm_c1_v]
    exact hq 4 _ (mG.rf.si (by omega) (by omega)) (ma_wr (by decide) a)
  rw [if_neg c6] at hq
  rw [if_pos (by simp; omega), h9]
  have nmo : ∀ Ψ, bm_Call bm_pg (d + 10) y_X12_nameOf [bm_r (some m), bm_i ((p + 1 : Nat) : Int)] w Ψ ↔ Ψ (.inl (some (bm_l (t_nm B (p + 1))))) w := fun Ψ => mp_nameOf a1 hp (by omega)
  simp only [nmo]
  rw [bm_c2_v]
  refine ⟨a1.1.1.1, mm_isTaken (d := d + 8) a1 a3 a4 k1 ?_⟩
  rw [bm_c1_v]
  by_cases ct : y_tk (t_V B) pr (t_V B (p + 1))
  · rw [if_pos ct] at hq ⊢
    rw [if_neg (by decide)]
    simp only [a1.1.1.1, true_and]
    refine mm_wrong (d := d + 9) a1 hp (fun a => ?_)
    rw [bm_c1_v]
    exact hq 3 _ (mG.rf.si (by omega) (by omega)) (ma_wr (by decide) a)
  rw [if_neg ct] at hq ⊢
  rw [if_pos (by decide)]
  have Z1 := a1.at9 (v := ((p + 3 : Nat) : Int))
  have g18 : bm_gi (bm_si w m 9 ((p + 3 : Nat) : Int)) m 18 = (pr.1.length : Int) := (q_gi_nk (by decide)).trans a3.1
  have g28 : bm_gi (bm_si w m 9 ((p + 3 : Nat) : Int)) m 28 = (pr.2.length : Int) := (q_gi_nk (by decide)).trans h28
  have e9 : bm_gi (bm_si w m 9 ((p + 3 : Nat) : Int)) m 9 = ((p + 3 : Nat) : Int) := q_gi_eq
  have nm2 : ∀ Ψ, bm_Call bm_pg (d + 10) y_X12_nameOf [bm_r (some m), bm_i ((p + 3 : Nat) : Int)] (bm_si w m 9 ((p + 3 : Nat) : Int)) Ψ ↔ Ψ (.inl (some (bm_l (t_nm B (p + 3))))) (bm_si w m 9 ((p + 3 : Nat) : Int)) := fun Ψ => mp_nameOf Z1 p3N (by omega)
  have f1 : t_fd (bm_gl w (m + 13)) 0 (t_nm B (p + 3)) pr.1.length = y_ix (t_V B) (t_V B (p + 3)) (pr.1.map (·.1)) 0 := by
    have := t_fd_ix (B := B) (g := bm_gl w (m + 13)) (p := 0) (x := p + 3) (l := pr.1.map (·.1)) (fun j hj => by
      rw [List.length_map] at hj
      rw [q_gdm (a := y_f0) hj, Nat.zero_add]
      exact (a3.2.2.1 j hj).1) a3.2.2.2 k3
    rw [List.length_map] at this
    exact this
  have hfind : ∀ Ψ, bm_Call bm_pg (d + 10) y_X12_find [bm_r (some (m + 13)), bm_i 0, bm_i (pr.1.length : Int), bm_l (t_nm B (p + 3))] (bm_si w m 9 ((p + 3 : Nat) : Int)) Ψ ↔ Ψ (.inl (some (bm_i (y_ix (t_V B) (t_V B (p + 3)) (pr.1.map (·.1)) 0)))) (bm_si w m 9 ((p + 3 : Nat) : Int)) := fun Ψ => by
    have := mp_find (d := d + 9) (Φ := Ψ) (w := bm_si w m 9 ((p + 3 : Nat) : Int)) (p := 0) (k := pr.1.length) (v := t_nm B (p + 3)) Z1.1.1.t19 (by rw [Z1.1.1.n19]; have := a3.2.1; omega) (by rw [Z1.1.1.n19]; decide)
    have e : t_fd (bm_gl (bm_si w m 9 ((p + 3 : Nat) : Int)) (m + 13)) 0 (t_nm B (p + 3)) pr.1.length = y_ix (t_V B) (t_V B (p + 3)) (pr.1.map (·.1)) 0 := f1
    rw [e] at this
    exact this
  have rg := y_ix_rng (V := t_V B) (v := t_V B (p + 3)) (pr.1.map (·.1)) 0 (Int.le_refl _)
  simp only [bm_c0_v, bm_c1_v, bm_c2_v, bm_c3_v, bm_c4_v, bm_c5_v, bm_u_some, decide_eq_true_eq, true_and, and_true, and_self, Bool.not_eq_true, Bool.not_eq_true', decide_eq_false_iff_not, if_true, if_false, ite_true, ite_false, eq_self, a1.1.1.1, h9, bm_w2 (show p + 1 < 2147483646 by omega), show p + 1 + 2 = p + 3 from rfl, Z1.1.1.1, Z1.1.1.g19, Z1.1.1.t19, Z1.1.1.n19, e9, nm2, bm_c2_v, g18, hfind, bm_c1_v]
  generalize hx : y_ix (t_V B) (t_V B (p + 3)) (pr.1.map (·.1)) 0 = x4 at rg hq ⊢
  by_cases c2 : x4 < 0
  · rw [if_pos c2] at hq
    rw [if_neg (by omega)]
    refine mm_wrong (d := d + 9) Z1 p3N (fun a => ?_)
    rw [bm_c1_v]
    exact hq 2 _ ((mG.rf.si (by omega) (by omega)).si (by omega) (by omega)) (ma_wr (by decide) a)
  rw [if_neg c2] at hq
  rw [List.length_map] at rg
  obtain ⟨f, rfl⟩ : ∃ f : Nat, x4 = (f : Int) := ⟨x4.toNat, by omega⟩
  have fl : f < pr.1.length := by omega
  have f6 := a3.2.1
  rw [if_pos (by omega)]
  rw [Int.toNat_natCast] at hq
  have T2 : sh_Md m (bm_si (bm_si w m 9 ((p + 3 : Nat) : Int)) (m + 22) pr.2.length (f : Int)) := Z1.1.1
  have g28' : bm_gi (bm_si (bm_si w m 9 ((p + 3 : Nat) : Int)) (m + 22) pr.2.length (f : Int)) m 28 = (pr.2.length : Int) := (q_gi_ne (by omega)).trans g28
  have T3 : sh_Md m (bm_si (bm_si (bm_si w m 9 ((p + 3 : Nat) : Int)) (m + 22) pr.2.length (f : Int)) (m + 23) pr.2.length 0) := Z1.1.1
  have e9' : bm_gi (bm_si (bm_si (bm_si w m 9 ((p + 3 : Nat) : Int)) (m + 22) pr.2.length (f : Int)) (m + 23) pr.2.length 0) m 9 = ((p + 3 : Nat) : Int) := by rw [q_gi_ne (by omega), q_gi_ne (by omega)]; exact e9
  simp only [Z1.1.1.1, Z1.1.1.g30, Z1.1.1.t30, Z1.1.1.n30, g28, Int.toNat_natCast, bm_c0_v, bm_c1_v, bm_c2_v, bm_c3_v, bm_c4_v, bm_c5_v, bm_u_some, decide_eq_true_eq, true_and, and_true, and_self, Bool.not_eq_true, Bool.not_eq_true', decide_eq_false_iff_not, if_true, if_false, ite_true, ite_false, eq_self, bm_in, T2.1, T2.g31, T2.t31, T2.n31, g28', T3.1, e9', bm_w1 (show p + 3 < 2147483647 by omega)]
  have Fr : q_fr (fun a => a = m ∨ a = m + 22 ∨ a = m + 23) w (bm_si (bm_si (bm_si (bm_si w m 9 ((p + 3 : Nat) : Int)) (m + 22) pr.2.length (f : Int)) (m + 23) pr.2.length 0) m 9 ((p + 4 : Nat) : Int)) := (((q_fr.rf.si (by omega)).si (by omega)).si (by omega)).si (by omega)
  have fm : ∀ j, j ≠ 9 → bm_gi (bm_si (bm_si (bm_si (bm_si w m 9 ((p + 3 : Nat) : Int)) (m + 22) pr.2.length (f : Int)) (m + 23) pr.2.length 0) m 9 ((p + 4 : Nat) : Int)) m j = bm_gi w m j := fun j hj => by rw [q_gi_nk hj, q_gi_ne (by omega), q_gi_ne (by omega), q_gi_nk hj]
  have u9 : bm_gi (bm_si (bm_si (bm_si (bm_si w m 9 ((p + 3 : Nat) : Int)) (m + 22) pr.2.length (f : Int)) (m + 23) pr.2.length 0) m 9 ((p + 4 : Nat) : Int)) m 9 = ((p + 4 : Nat) : Int) := q_gi_eq
  have u22 : ∀ j, bm_gi (bm_si (bm_si (bm_si (bm_si w m 9 ((p + 3 : Nat) : Int)) (m + 22) pr.2.length (f : Int)) (m + 23) pr.2.length 0) m 9 ((p + 4 : Nat) : Int)) (m + 22) j = if j = pr.2.length then (f : Int) else bm_gi w (m + 22) j := fun j => by
    rw [q_gi_ne (by omega), q_gi_ne (by omega)]
    by_cases z : j = pr.2.length
    · rw [if_pos z, z, q_gi_eq]
    · rw [if_neg z, q_gi_nk z, q_gi_ne (by omega)]
  have u23 : ∀ j, bm_gi (bm_si (bm_si (bm_si (bm_si w m 9 ((p + 3 : Nat) : Int)) (m + 22) pr.2.length (f : Int)) (m + 23) pr.2.length 0) m 9 ((p + 4 : Nat) : Int)) (m + 23) j = if j = pr.2.length then 0 else bm_gi w (m + 23) j := fun j => by
    rw [q_gi_ne (by omega)]
    by_cases z : j = pr.2.length
    · rw [if_pos z, z, q_gi_eq]
    · rw [if_neg z, q_gi_nk z, q_gi_ne (by omega), q_gi_ne (by omega)]
  have e34 : p + 3 + 1 = p + 4 := rfl
  rw [e34]
  generalize bm_si (bm_si (bm_si (bm_si w m 9 ((p + 3 : Nat) : Int)) (m + 22) pr.2.length (f : Int)) (m + 23) pr.2.length 0) m 9 ((p + 4 : Nat) : Int) = w5 at Fr fm u9 u22 u23 ⊢
  have Z5 : md_Z m B N w5 := md_Z.fr Fr (fun j _ _ => by omega) (fm 2 (by decide)) a1
  have ins3 := (a3.2.2.1 f fl).2.1.2.1
  have hi5 : mip m B f (pr.1.getD f y_f0).2.1 w5 := (a3.2.2.1 f fl).2.1.mv (fun j => ⟨Fr.gi (by omega), Fr.gl (by omega), Fr.gi (by omega), Fr.gi (by omega)⟩)
  have hrs5 : mrs m pr.2.length (pr.1.getD f y_f0).2.1.length [] w5 := ⟨by rw [u23, if_pos rfl]; rfl, Nat.zero_le _, by simp [y_ct], fun i hi => by cases hi⟩
  refine ⟨by omega, by omega, mm_116 (d := d) (w0 := w5) ((fm 28 (by decide)).trans h28) (by omega) (by rw [u22, if_pos rfl]) (by omega) (hfk f fl) hp k1 f_T [] (p + 4) w5 Z5 mR.rf rfl u9 p5N hi5 hrs5 hrw (fun er w' z R er0 er3 => ?_) (fun rows' w' z Z R z3 w9 qN hrs' => ?_)⟩
  · rw [z, y_b_inl] at hq
    exact hq er.1 w' ((mG.of Fr (fun a u => by omega) (fun k hk => fm k (by omega))).tr (mG.of R.1 (fun a u => by omega) (fun k hk => R.2.1 k (by omega) (by omega)))) ⟨rfl, er0, er3⟩
  · rw [z, y_b_inr] at hq
    have Fq : q_fr (fun a => a = m ∨ (m + 21 ≤ a ∧ a ≤ m + 27)) w (bm_si (bm_sq w' (m + 21) pr.2.length (t_nm B (p + 1))) m 28 ((pr.2.length + 1 : Nat) : Int)) := (((Fr.mo (fun a u => by omega)).tr (R.1.mo (fun a u => by omega))).sq (by omega)).si (Or.inl rfl)
    have fq : ∀ j, j ≠ 3 → j ≠ 9 → j ≠ 28 → bm_gi (bm_si (bm_sq w' (m + 21) pr.2.length (t_nm B (p + 1))) m 28 ((pr.2.length + 1 : Nat) : Int)) m j = bm_gi w m j := fun j x y v => by
      rw [q_gi_nk v, bm_sq_gi, R.2.1 j x y, fm j y]
    refine hq 0 _ (mG.of Fq (fun a u => by omega) (fun k hk => fq k (by omega) (by omega) (by omega))) ⟨rfl, by rw [q_gi_nk (by decide), bm_sq_gi, z3, fm 3 (by decide)], ⟨?_, ?_, ?_, ⟨?_, ?_, fun k' hk' => ?_, ?_⟩, ?_, ⟨n, ?_, ?_⟩, ?_⟩, ?_⟩
    · exact md_Z.fr (A := fun a => a = m ∨ a = m + 21) ((q_fr.rf.sq (by omega)).si (by omega)) (fun j _ _ => by omega) (by rw [q_gi_nk (by decide), bm_sq_gi]) Z
    · rw [Fq.sz]; exact a2
    · exact a3.mv (mfr.of Fq (fun a u v => by omega) (by rw [fq 11 (by decide) (by decide) (by decide)]; exact Int.le_refl _)) (fq 18 (by decide) (by decide) (by decide))
    · rw [q_gi_eq, List.length_append]; rfl
    · rw [List.length_append]; simp; omega
    · rw [List.length_append, List.length_singleton] at hk'
      have mvl : ∀ Tb k2, mtb m B pr.1 k2 Tb w' → (k2 ≠ pr.2.length) → mtb m B pr.1 k2 Tb (bm_si (bm_sq w' (m + 21) pr.2.length (t_nm B (p + 1))) m 28 ((pr.2.length + 1 : Nat) : Int)) := fun Tb k2 hT hne => by
        obtain ⟨⟨c0, c1⟩, c2, c3, d1, d2, d3, d4⟩ := hT
        refine ⟨⟨c0, (q_gl_nk hne).trans c1⟩, ?_, c3, ?_, d2, d3, fun i hi => ⟨?_, (d4 i hi).2⟩⟩
        · rw [q_gi_ne (by omega)]; exact c2
        · rw [q_gi_ne (by omega)]; exact d1
        · obtain ⟨x1, x2, x3⟩ := (d4 i hi).1
          refine ⟨fun c hc => ?_, (q_gi_ne (by omega)).trans x2, (q_gl_ne (by omega)).trans x3⟩
          rw [q_gi_ne (by omega), q_gi_ne (by omega)]
          exact x1 c hc
      by_cases y : k' = pr.2.length
      · rw [q_gde y, y]
        obtain ⟨d1, d2, d3, d4⟩ := hrs'
        refine ⟨⟨k1, q_gl_eq⟩, ?_, fl, ?_, d2, d3, fun i hi => ⟨?_, (d4 i hi).2⟩⟩
        · rw [q_gi_ne (by omega), bm_sq_gi, R.1.gi (by omega), u22, if_pos rfl]
        · rw [q_gi_ne (by omega)]; exact d1
        · obtain ⟨x1, x2, x3⟩ := (d4 i hi).1
          refine ⟨fun c hc => ?_, (q_gi_ne (by omega)).trans x2, (q_gl_ne (by omega)).trans x3⟩
          rw [q_gi_ne (by omega), q_gi_ne (by omega)]
          exact x1 c hc
      · rw [q_gdl (by omega)]
        refine mvl _ _ (mtb.mv (k := pr.2.length) ?_ (by omega) R ?_) y
        · obtain ⟨⟨c0, c1⟩, c2, c3, d1, d2, d3, d4⟩ := a4.2.2.1 k' (by omega)
          refine ⟨⟨c0, (Fr.gl (by omega)).trans c1⟩, ?_, c3, ?_, d2, d3, fun i hi => ⟨?_, (d4 i hi).2⟩⟩
          · rw [u22, if_neg y]; exact c2
          · rw [u23, if_neg y]; exact d1
          · obtain ⟨x1, x2, x3⟩ := (d4 i hi).1
            refine ⟨fun c hc => ?_, (Fr.gi (by omega)).trans x2, (Fr.gl (by omega)).trans x3⟩
            rw [Fr.gi (by omega), Fr.gi (by omega)]
            exact x1 c hc
        · exact (a3.2.2.1 _ (a4.2.2.1 k' (by omega)).2.2.1).2.1.2.1
    · rw [List.map_append]
      have := y_ix_rng (V := t_V B) (v := t_V B (p + 1)) (pr.2.map (·.1)) 0 (Int.le_refl _)
      unfold y_tk at ct
      exact y_ds_snoc (x := p + 1) a4.2.2.2 (by omega)
    · rw [fq 27 (by decide) (by decide) (by decide), a5, Ir]
    · exact (fq 11 (by decide) (by decide) (by decide)).trans a6
    · omega
    · rw [Ir]; exact a8
    · rw [q_gi_nk (by decide), bm_sq_gi, w9]; rfl
end MN
