section GC
variable {d b t k : Nat} {B : Int → Int} {pr : y_pr} {w w' : bm_W} {Φ : bm_Rt → bm_W → Prop}
theorem tb_keep_lt {T n : Nat} {w : bm_W} {x : Int} (h5 : bm_gi w T 5 = (n : Int)) (hn : n < 12) (h6 : bm_gi w T 6 = x) (hx : 0 ≤ x ∧ x ≤ 100) (hr : rg_rc w (tb_row w T (n : Int) + 1) = 1) : tb_keep w T = bm_si (bm_si w T 6 (x + 1)) T 5 ((n : Int) + 1) := by
  unfold tb_keep
  rw [h5, if_neg (by omega), hr, h6, q_wI (x := x + 1) ⟨by omega, by omega⟩, q_wI (x := (n : Int) + 1) ⟨by omega, by omega⟩]
theorem cZ.addCase (h : cZ b t B pr w) (hS : zS t pr w) (hk : k < pr.2.length) (hg : (pr.2.getD k y_t0).2.1 < pr.1.length) (ok : y_gok pr k) (hq : ∀ w5, cZ b t B (y_gp pr k) (bm_si w5 (t + 117) 2 0) → zS t (y_gp pr k) (bm_si w5 (t + 117) 2 0) → cL t 0 0 w (bm_si w5 (t + 117) 2 0) → cI b t w5 → bm_gi w5 (pg_tb (t + 4) (k : Int)) 6 = y_ct (pr.2.getD k y_t0).2.2 + 1 → Φ (.inl none) w5) : bm_Call bm_pg (d + 24) y_X11_addCase [bm_r (some b), bm_r (some (pg_tb (t + 4) (k : Int))), bm_i (y_pp pr (pr.2.getD k y_t0).2.1)] w Φ := by
  have c1 := h.1.1
  have S := h.2.1.1
  have Z := h.2.1.2.2.2 k hk
  have l6 := h.2.1.2.2.1
  have c5 := Z.2.2.2.2.1.1
  have c6 := Z.2.2.2.2.1.2.2.1
  have ct := h.ct k hk
  have eb := h.1.1.1
  have tk := h.2.1.tb (k := k) (by omega)
  have os := h.1.2.2.2.2.2.1.1
  have fn := Z.2.2.2.1
  have n1 := fn.2.2.1
  have n3 := fn.2.1.2.1
  have SF := S.2.2.2.1.fn ((pr.2.getD k y_t0).2.1 : Int)
  have offf := pg_fn_off t ((pr.2.getD k y_t0).2.1 : Int)
  have fk : y_fk (y_tF pr k).2.1 := h.fk hg
  have pr' := y_pp_rng (pr := pr) (f := (pr.2.getD k y_t0).2.1) fk n1 n3
  have cs := y_cs_3 (y_rg_lk fk) (by rw [y_rg_len]; exact n3)
  have ok1 := ok.1
  have ok2 := ok.2.1
  have pp1 : y_pp pr (pr.2.getD k y_t0).2.1 < 2147483648 := by
    rcases pr' with z | z
    · omega
    · have e : y_cs (y_rg (pr.1.getD (pr.2.getD k y_t0).2.1 y_f0).2.1) = y_cs (y_rg (y_tF pr k).2.1) := rfl
      omega
  refine vc_X11_addCase ?_
  simp only [bm_c0_v, bm_c1_v, bm_c2_v, bm_c3_v, bm_c4_v, bm_c5_v, bm_u_some, decide_eq_true_eq, true_and, and_true, and_self, Bool.not_eq_true, Bool.not_eq_true', decide_eq_false_iff_not, if_true, if_false, ite_true, ite_false, eq_self, c1.2.1, c1.2.2.2.2.1, Z.2.1.1, S.2.2.2.1.1, Z.2.2.1, sp_funAt (d := d + 22) S.2.2.2.1, SF.1, SF.2.2.1]
  refine sp_nextRow (d := d + 19) (t := t) (i := (k : Int)) rfl Z.2.1 h.1.2.2.2.2.2.1 (fun r w1 hn => ?_)
  rw [bm_c3_v]
  have hn' := hn
  obtain ⟨nk, ⟨gc, gs, G⟩, ho, hT, hR, -, hsz, hp, hj, hap, hv⟩ := hn
  rw [c5] at hp hj hap
  obtain ⟨hpr, r156⟩ := hp (by omega) (by omega)
  rw [Int.toNat_natCast] at hpr
  have I1 : cI b t w1 := h.1.gn (k := k) G (fun a z => ⟨by omega, by omega, fun i => by have := pg_fn_off t i; omega⟩) (by omega) (fun a z => z) hT ho
  have fn1 : yfn t B (pr.2.getD k y_t0).2.1 (y_tF pr k) w1 := fn.bk (fun x _ a u v j => by
    have := pg_fn_off t (x : Int)
    exact ⟨G.gi (by omega) (by omega), G.gl (by omega) (by omega)⟩)
  have gl1 := fn1.2.1.rgl (I1.2.2.2.1.fn _)
  have T4 : bm_gi w1 (pg_tb (t + 4) (k : Int)) 4 = ((pr.2.getD k y_t0).2.1 : Int) := (G.gi (by omega) (by omega)).trans Z.2.2.1
  have T5 : bm_gi w1 (pg_tb (t + 4) (k : Int)) 5 = ((pr.2.getD k y_t0).2.2.length : Int) := (G.gi (by omega) (by omega)).trans c5
  have T6 : bm_gi w1 (pg_tb (t + 4) (k : Int)) 6 = y_ct (pr.2.getD k y_t0).2.2 := (G.gi (by omega) (by omega)).trans c6
  have m6 : bm_gi w1 (t + 113) 6 = 0 := (G.gi (by omega) (by omega)).trans h.2.2.2.2
  refine ac_24 (d := d) gl1 hR ok1 pp1 (by omega) (pg_tb (t + 4) (k : Int)) (fun w2 F2 v2 => ?_) 3 0 w1 rfl q_fr.rf (fun x hx => by omega)
  have F2' : q_fr (fun a => (r ≤ a ∧ a ≤ r + 3) ∨ (t + 113 ≤ a ∧ a ≤ t + 116) ∨ a = pg_tb (t + 4) (k : Int)) w1 w2 := F2.mo (fun a z => by omega)
  have I2 : cI b t w2 := I1.frA F2 (by omega) (by omega) (fun i => by have := pg_fn_off t i; omega)
  have R2 := hR.fr F2
  have fn2 : yfn t B (pr.2.getD k y_t0).2.1 (y_tF pr k) w2 := fn1.bk (fun x _ a u v j => by
    have := pg_fn_off t (x : Int)
    exact ⟨F2.gi (by omega), F2.gl (by omega)⟩)
  have T42 : bm_gi w2 (pg_tb (t + 4) (k : Int)) 4 = ((pr.2.getD k y_t0).2.1 : Int) := (F2.gi (by omega)).trans T4
  have lo : ∀ c : Nat, c < 3 → rg_lo w2 (r + 1) (c : Int) = y_gv pr k c := fun c hc => by
    unfold rg_lo
    rw [if_pos ⟨by omega, by omega⟩, Int.toNat_natCast]
    exact (v2 c hc).1
  have lo0 : rg_lo w2 (r + 1) 0 = y_gv pr k 0 := lo 0 (by decide)
  have lo1 : rg_lo w2 (r + 1) 1 = y_gv pr k 1 := lo 1 (by decide)
  have lo2 : rg_lo w2 (r + 1) 2 = y_gv pr k 2 := lo 2 (by decide)
  have Tb2 := hT.fr F2
  refine vb_X11_addCase_24 ?_
  rw [if_pos (by decide)]
  simp only [bm_c0_v, bm_c1_v, bm_c2_v, bm_c3_v, bm_c4_v, bm_c5_v, bm_u_some, decide_eq_true_eq, true_and, and_true, and_self, Bool.not_eq_true, Bool.not_eq_true', decide_eq_false_iff_not, if_true, if_false, ite_true, ite_false, eq_self, R2.1, R2.2.1, I2.1.2.1, I2.1.2.2.2.2.2.2.1, Tb2.1, R2.2.2.1, sp_low (d := d + 22) R2.2.2, lo0, lo1, lo2, I2.2.2.2.2.1.1, T42]
  have eD : (y_tF pr k).2.2.2.2 (q_abc (y_gv pr k 0) (y_gv pr k 1) (y_gv pr k 2)) (-1) = (y_tF pr k).2.2.2.2 (y_gv pr k) (-1) := Z.2.2.2.2.2.2.1.1 _ _ (-1) (fun i hi => by
    rcases (show i = 0 ∨ i = 1 ∨ i = 2 by omega) with rfl | rfl | rfl <;> rfl)
  -- the end
  have tail : ∀ (v : Int) (w3 : bm_W) (o : Option Int), mc_Q (t + 113) ((y_tF pr k).2.2.2.2 (y_gv pr k) (-1)).2 w2 w3 → y_gw pr k = o → o.getD 0 = v → ∀ res : Int, (res = if o.isSome = true then 22 else 15) → sh_Tb (pg_tb (t + 4) (k : Int)) (bm_si (bm_sq w3 r 2 v) r 1 res) ∧ Φ (.inl none) (tb_keep (bm_si (bm_sq w3 r 2 v) r 1 res) (pg_tb (t + 4) (k : Int))) := fun v w3 o Q3 ho2 hv2 res hres => by
    have q1 := Q3.1
    have Fa : q_fr (fun a => (r ≤ a ∧ a ≤ r + 3) ∨ (t + 113 ≤ a ∧ a ≤ t + 116) ∨ a = pg_tb (t + 4) (k : Int)) w1 (bm_si (bm_sq w3 r 2 v) r 1 res) := ((F2'.tr (q1.mo (fun a z => by omega))).sq (Or.inl ⟨Nat.le_refl _, by omega⟩)).si (Or.inl ⟨Nat.le_refl _, by omega⟩)
    have Tb4 := hT.fr Fa
    have Rw4 := hR.fr Fa
    have y5 : bm_gi (bm_si (bm_sq w3 r 2 v) r 1 res) (pg_tb (t + 4) (k : Int)) 5 = ((pr.2.getD k y_t0).2.2.length : Int) := by
      rw [q_gi_ne (by omega)]
      exact (q1.gi (by omega)).trans ((F2.gi (by omega)).trans T5)
    have y6 : bm_gi (bm_si (bm_sq w3 r 2 v) r 1 res) (pg_tb (t + 4) (k : Int)) 6 = y_ct (pr.2.getD k y_t0).2.2 := by
      rw [q_gi_ne (by omega)]
      exact (q1.gi (by omega)).trans ((F2.gi (by omega)).trans T6)
    have y4 : bm_gi (bm_si (bm_sq w3 r 2 v) r 1 res) (pg_tb (t + 4) (k : Int)) 4 = bm_gi w1 (pg_tb (t + 4) (k : Int)) 4 := by
      rw [q_gi_ne (by omega)]
      exact (q1.gi (by omega)).trans (F2.gi (by omega))
    have vr : ∀ c, c < 3 → bm_gi (bm_si (bm_sq w3 r 2 v) r 1 res) (r + 2) c = y_gv pr k c ∧ bm_gi (bm_si (bm_sq w3 r 2 v) r 1 res) (r + 3) c = y_gv pr k c := fun c hc => by
      rw [q_gi_ne (by omega), q_gi_ne (by omega)]
      have a := v2 c hc
      exact ⟨(q1.gi (by omega)).trans a.1, (q1.gi (by omega)).trans a.2⟩
    have yr : yrw r (y_gR pr k) (bm_si (bm_sq w3 r 2 v) r 1 res) := by
      refine ⟨fun c hc => ?_, ?_, ?_⟩
      · rw [y_gR_c fk]
        exact vr c hc
      · rw [q_gi_eq, hres, ← ho2]
        rfl
      · show bm_gl (bm_sq w3 r 2 v) r 2 = _
        rw [q_gl_eq, ← hv2, ← ho2]
        rfl
    have rk2 := y_gR_k (pr := pr) (k := k) fk
    have gl4 : rgl (r + 1) (y_gR pr k).1 (bm_si (bm_sq w3 r 2 v) r 1 res) := ⟨Rw4.2.2, by rw [rk2.1]; exact n3, fun c hc => rk2.2.1 c (by rw [← rk2.1]; exact hc), fun c hc => yr.1 c hc⟩
    have rc := gl4.rc.1
    rw [y_gR_cs fk n3] at rc
    have row : tb_row (bm_si (bm_sq w3 r 2 v) r 1 res) (pg_tb (t + 4) (k : Int)) (((pr.2.getD k y_t0).2.2.length : Nat) : Int) = r := by
      unfold tb_row
      rw [if_pos ⟨by omega, by omega⟩, Int.toNat_natCast, Fa.gr, hpr]
      rfl
    have ke := tb_keep_lt (T := pg_tb (t + 4) (k : Int)) y5 ok2 y6 ct (by rw [row]; exact rc)
    refine ⟨Tb4, ?_⟩
    rw [ke]
    have F5 : q_fr (fun a => (r ≤ a ∧ a ≤ r + 3) ∨ (t + 113 ≤ a ∧ a ≤ t + 116) ∨ a = pg_tb (t + 4) (k : Int)) w1 (bm_si (bm_si (bm_si (bm_sq w3 r 2 v) r 1 res) (pg_tb (t + 4) (k : Int)) 6 (y_ct (pr.2.getD k y_t0).2.2 + 1)) (pg_tb (t + 4) (k : Int)) 5 (((pr.2.getD k y_t0).2.2.length : Int) + 1)) := (Fa.si (Or.inr (Or.inr rfl))).si (Or.inr (Or.inr rfl))
    have r4 : bm_gi w1 r 4 = 0 := hv.2.2.1
    have af := ac_fin h hS hk fk ok hn' F5 (yr.bk (fun a u v j => ⟨by rw [q_gi_ne (by omega), q_gi_ne (by omega)], rfl⟩)) (by
      rw [q_gi_ne (by omega), q_gi_ne (by omega), q_gi_nk (by decide)]
      exact (q1.gi (by omega)).trans ((F2.gi (by omega)).trans r4)) (by
      rw [q_gi_ne (by omega), q_gi_ne (by omega), q_gi_ne (by omega)]
      exact Q3.2.1.trans ((F2.gi (by omega)).trans m6)) (by rw [q_gi_nk (by decide), q_gi_nk (by decide)]; exact y4) q_gi_eq (by rw [q_gi_nk (by decide), q_gi_eq])
    exact hq _ af.1 af.2.1 af.2.2.1 af.2.2.2 (by rw [q_gi_nk (by decide), q_gi_eq])
  obtain ⟨-, -, -, -, -, s1, s2, -, hkk⟩ := fn2
  have qf := hkk w2 (fun _ _ _ _ _ => rfl) I2.2.2.2.1 I2.2.2.2.2.1
  have g6 := Z.2.2.2.2.2.2.1.2.2.1
  have post : ∀ (v x5 : Int) (w3 : bm_W) (o : Option Int), mc_Q (t + 113) ((y_tF pr k).2.2.2.2 (y_gv pr k) (-1)).2 w2 w3 → bm_gi w3 (t + 113) 5 = x5 → y_gw pr k = o → o.getD 0 = v → (o.isSome = true ∧ x5 = 0 ∨ o.isSome = false ∧ x5 = 1) → bm_kt w3 r = 5 ∧ (bm_kt (bm_sq w3 r 2 v) b = 11 ∧ bm_gr (bm_sq w3 r 2 v) b 4 = some (bm_u (bm_gr (bm_sq w3 r 2 v) b 4))) ∧ bm_kt (bm_sq w3 r 2 v) (bm_u (bm_gr (bm_sq w3 r 2 v) b 4)) = 2 ∧ bm_Call bm_pg (d + 23) y_X2_hasFailed [bm_r (some (bm_u (bm_gr (bm_sq w3 r 2 v) b 4)))] (bm_sq w3 r 2 v) (fun r5 w5 => bm_c1 (fun x5 => if x5 = 0 then bm_kt w5 r = 5 ∧ bm_kt (bm_si w5 r 1 22) (pg_tb (t + 4) (k : Int)) = 7 ∧ bm_Call bm_pg (d + 23) y_X7_keepRow [bm_r (some (pg_tb (t + 4) (k : Int)))] (bm_si w5 r 1 22) (fun r6 w6 => bm_c0 (Φ (.inl none) w6) (fun E => Φ (.inr E) w6) r6) else bm_kt w5 r = 5 ∧ bm_kt (bm_si w5 r 1 15) (pg_tb (t + 4) (k : Int)) = 7 ∧ bm_Call bm_pg (d + 23) y_X7_keepRow [bm_r (some (pg_tb (t + 4) (k : Int)))] (bm_si w5 r 1 15) (fun r7 w7 => bm_c0 (Φ (.inl none) w7) (fun E => Φ (.inr E) w7) r7)) (fun E => Φ (.inr E) w5) r5) := fun v x5 w3 o Q3 h5 ho2 hv2 hx => by
    have q1 := Q3.1
    have F4 : q_fr (fun a => (r ≤ a ∧ a ≤ r + 3) ∨ (t + 113 ≤ a ∧ a ≤ t + 116)) w2 (bm_sq w3 r 2 v) := (q1.mo (fun a z => Or.inr (by omega))).sq (Or.inl ⟨Nat.le_refl _, by omega⟩)
    have I4 : cI b t (bm_sq w3 r 2 v) := I2.frA F4 (by omega) (by omega) (fun i => by have := pg_fn_off t i; omega)
    have R3 := R2.fr q1
    have R4 := R2.fr F4
    have v5 : bm_gi (bm_sq w3 r 2 v) (t + 113) 5 = x5 := h5
    have tl := tail v w3 o Q3 ho2 hv2
    refine ⟨R3.1, ⟨I4.1.2.1, by rw [I4.1.2.2.2.2.2.2.1]; rfl⟩, ?_⟩
    rw [I4.1.2.2.2.2.2.2.1, bm_u_some]
    refine ⟨I4.2.2.2.2.1.1, ?_⟩
    rw [sp_hasFailed (d := d + 22) I4.2.2.2.2.1 (by rw [v5]; rcases hx with z | z <;> omega), v5, bm_c1_v]
    rcases hx with ⟨z1, z2⟩ | ⟨z1, z2⟩
    · rw [z2, if_pos rfl]
      obtain ⟨t1, t2⟩ := tl 22 (by rw [z1]; rfl)
      refine ⟨R4.1, t1.1, ?_⟩
      rw [sp_keepRow (d := d + 19) t1, bm_c0_v]
      exact t2
    · rw [z2, if_neg (by decide)]
      obtain ⟨t1, t2⟩ := tl 15 (by rw [z1]; rfl)
      refine ⟨R4.1, t1.1, ?_⟩
      rw [sp_keepRow (d := d + 19) t1, bm_c0_v]
      exact t2
  refine sp_reckon (d := d + 20) (w0 := w2) I2.2.2.2.1 qf n3 (by omega) q_fr.rf s2 s1 (fun v hv w3 Q3 h5 => ?_) (fun hv w3 Q3 h5 => ?_)
  · rw [eD] at hv Q3
    rw [bm_c2_v]
    exact post v 0 w3 (some v) Q3 h5 hv rfl (Or.inl ⟨rfl, rfl⟩)
  · rw [eD] at hv Q3
    rw [bm_c2_v]
    exact post 0 1 w3 none Q3 h5 hv rfl (Or.inr ⟨rfl, rfl⟩)
theorem co_grow {x : Int} (h : cZ b t B pr w) (hS : zS t pr w) (hin : y_inr pr) (hb : ∀ k, k < pr.2.length → (pr.2.getD k y_t0).2.1 < pr.1.length) (q1 : 0 ≤ x ∧ x < (pr.2.length : Int) → y_gok pr x.toNat → ∀ w', cL t 0 0 w w' → cZ b t B (y_gp pr x.toNat) w' → zS t (y_gp pr x.toNat) w' → Φ (.inl (some (bm_i (y_ct (pr.2.getD x.toNat y_t0).2.2 + 1)))) w') (q2 : 0 ≤ x ∧ x < (pr.2.length : Int) → ¬ y_gok pr x.toNat → ∀ w', cO t 1 6 w w' → cZ b t B pr w' → Φ (.inr "java/lang/IllegalStateException") w') (q0 : ¬ (0 ≤ x ∧ x < (pr.2.length : Int)) → Φ (.inr "java/lang/IndexOutOfBoundsException") (bm_tw w)) : bm_Call bm_pg (d + 25) y_X11_grow [bm_r (some b), bm_i x] w Φ := by
  have c1 := h.1.1
  refine vc_X11_grow ⟨c1.2.1, h.exT (d := d + 22) (fun c => ?_) q0⟩
  rw [bm_c3_v]
  obtain ⟨k, rfl⟩ : ∃ k : Nat, x = (k : Int) := ⟨x.toNat, by omega⟩
  have hk : k < pr.2.length := by omega
  have Z := h.2.1.2.2.2 k hk
  have hg := hb k hk
  have os := h.1.2.2.2.2.2.1.1
  have q1 := q1 c
  have q2 := q2 c
  rw [Int.toNat_natCast] at q1 q2
  rw [Z.2.2.1]
  refine ⟨Z.2.1.1, c1.2.1, h.findUntried (d := d + 20) hg hin (fun w2 Z2 M2 W2 F2 => ?_)⟩
  rw [bm_c0_v]
  have d1 := Z2.1.1
  have ZT := Z2.2.1.2.2.2 k hk
  have S2 := hS.cO h (cO.un F2)
  simp only [bm_c0_v, bm_c1_v, bm_c2_v, bm_c3_v, bm_c4_v, bm_c5_v, bm_u_some, decide_eq_true_eq, true_and, and_true, and_self, Bool.not_eq_true, Bool.not_eq_true', decide_eq_false_iff_not, if_true, if_false, ite_true, ite_false, eq_self, d1.2.1, d1.2.2.2.2.2.2.2.2.1, d1.2.2.2.2.2.2.2.2.2.2.2.2.1]
  refine Z2.bestRow (d := d + 20) hg M2 W2 ?_
  rw [bm_c1_v]
  simp only [bm_c0_v, bm_c1_v, bm_c2_v, bm_c3_v, bm_c4_v, bm_c5_v, bm_u_some, decide_eq_true_eq, true_and, and_true, and_self, Bool.not_eq_true, Bool.not_eq_true', decide_eq_false_iff_not, if_true, if_false, ite_true, ite_false, eq_self, ZT.2.1.1, ZT.2.2.2.2.1.1, ZT.2.2.2.2.1.2.2.1]
  have thr : ¬ y_gok pr k → Φ (.inr "java/lang/IllegalStateException") (bm_tw w2) := fun no => q2 no _ (cO.un F2).tw Z2.tw
  by_cases p0 : y_pp pr (pr.2.getD k y_t0).2.1 < 0
  · rw [if_pos p0]
    exact thr (fun z => by have := z.1; omega)
  · rw [if_neg p0]
    by_cases p1 : (12 : Int) ≤ ((pr.2.getD k y_t0).2.2.length : Int)
    · rw [if_pos p1]
      exact thr (fun z => by have := z.2.1; omega)
    · rw [if_neg p1]
      by_cases p2 : y_ct (pr.2.getD k y_t0).2.2 < 100
      · rw [if_pos p2]
        have ok : y_gok pr k := ⟨by omega, by omega, p2⟩
        refine ⟨d1.2.1, Z2.addCase (d := d) S2 hk hg ok (fun w5 Z5 S5 L5 I5 e6 => ?_)⟩
        rw [bm_c0_v]
        have f1 := I5.1
        simp only [bm_c0_v, bm_c1_v, bm_c2_v, bm_c3_v, bm_c4_v, bm_c5_v, bm_u_some, decide_eq_true_eq, true_and, and_true, and_self, Bool.not_eq_true, Bool.not_eq_true', decide_eq_false_iff_not, if_true, if_false, ite_true, ite_false, eq_self, f1.2.1, f1.2.2.2.2.2.2.2.1, f1.2.2.2.2.2.2.2.2.2.1]
        refine vc_X6_forget ?_
        have kt7 : bm_kt (bm_si w5 (t + 117) 2 0) (pg_tb (t + 4) (k : Int)) = 7 := (I5.2.2.2.1.tb (k : Int)).1
        have tk := h.2.1.tb (k := k) (by have := h.2.1.2.2.1; omega)
        have e6' : bm_gi (bm_si w5 (t + 117) 2 0) (pg_tb (t + 4) (k : Int)) 6 = y_ct (pr.2.getD k y_t0).2.2 + 1 := (q_gi_ne (by omega)).trans e6
        have := q1 ok _ ((cO.cL (cO.un F2) (by omega)).tr L5) Z5 S5
        simp only [bm_c0_v, bm_c1_v, bm_c2_v, bm_c3_v, bm_c4_v, bm_c5_v, bm_u_some, decide_eq_true_eq, true_and, and_true, and_self, Bool.not_eq_true, Bool.not_eq_true', decide_eq_false_iff_not, if_true, if_false, ite_true, ite_false, eq_self, f1.2.2.2.2.2.2.2.2.2.1, kt7, e6']
        exact ⟨Or.inl trivial, this⟩
      · rw [if_neg p2]
        exact thr (fun z => p2 z.2.2)
end GC
