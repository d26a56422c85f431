/-! ===== the law behind compiling ===== -/
section LQ
variable {d b : Nat} {Bf : Int → Int} {A B : Int} {D : q_D} {X Y : Nat} {rows rows' : List y_rw} {w w' : bm_W} {Φ : bm_Rt → bm_W → Prop}
/-- the bench with the law's program -/
def LW (b : Nat) (Bf : Int → Int) (A B : Int) (D : q_D) (X Y : Nat) (rows : List y_rw) (w : bm_W) : Prop :=
  lC b (b + 3) Bf (gp A B D rows) 1 0 (fun _ => 0) (-1) w ∧ y_inr (gp A B D rows) ∧ bm_sz w + 4 * rm (b + 3) w ≤ X ∧ bm_sl w + 13 * rm (b + 3) w ≤ Y
theorem LW.cL (h : LW b Bf A B D X Y rows w) (G : cL (b + 3) 0 0 w w') (Z : cZ b (b + 3) Bf (gp A B D rows') w') (S : zS (b + 3) (gp A B D rows') w') (hin : y_inr (gp A B D rows')) : LW b Bf A B D X Y rows' w' := by
  obtain ⟨h1, h2, h3, h4⟩ := h
  have g1 := G.2.1
  have g2 := G.2.2
  exact ⟨h1.cL G Z S, hin, by omega, by omega⟩
theorem LW.cO (h : LW b Bf A B D X Y rows w) (G : cO (b + 3) 0 0 w w') (Z : cZ b (b + 3) Bf (gp A B D rows) w') : LW b Bf A B D X Y rows w' :=
  h.cL (G.cL (by have := h.1.sz; omega)) Z (h.1.2.1.cO h.1.1 G) h.2.1
theorem LW.kt (h : LW b Bf A B D X Y rows w) : bm_kt w b = 11 := h.1.1.1.1.2.1
theorem LW.loc (h : LW b Bf A B D X Y rows w) : q_loc 2 D := (h.1.1.2.1.2.2.2 0 (by show 0 < 1; decide)).2.2.2.2.2.2.1.1
theorem lq_1 : (0 : Int) ≤ 0 ∧ (0 : Int) < ((gp A B D rows).1.length : Int) := ⟨Int.le_refl 0, by show (0 : Int) < 1; decide⟩
theorem lq_2 : (0 : Int) ≤ 0 ∧ (0 : Int) < ((gp A B D rows).2.length : Int) := ⟨Int.le_refl 0, by show (0 : Int) < 1; decide⟩
theorem LW.fn {what : Int} (h : LW b Bf A B D X Y rows w) (hw : 0 ≤ what ∧ what ≤ 5) (q : ∀ w', LW b Bf A B D X Y rows w' → Φ (.inl (some (bm_i (y_ft (gp A B D rows) 0 what)))) w') : bm_Call bm_pg (d + 1300) y_X11_fun [bm_r (some b), bm_i 0, bm_i what] w Φ :=
  co_fun (d := d + 1295) h.1.1 h.2.1 (fun _ w' G Z => q w' (h.cO G Z)) (fun z => absurd ⟨lq_1, hw⟩ z)
theorem LW.pp (h : LW b Bf A B D X Y rows w) (q : ∀ w', LW b Bf A B D X Y rows w' → Φ (.inl (some (bm_i (y_pp (gp A B D rows) 0)))) w') : bm_Call bm_pg (d + 1300) y_X11_propose [bm_r (some b), bm_i 0] w Φ :=
  co_propose (d := d + 1295) h.1.1 h.2.1 (fun _ w' G Z => q w' (h.cO G Z)) (fun z => absurd lq_1 z)
theorem LW.tb {what : Int} (h : LW b Bf A B D X Y rows w) (hw : 0 ≤ what ∧ what ≤ 4) (q : ∀ w', LW b Bf A B D X Y rows w' → Φ (.inl (some (bm_i (y_told (gp A B D rows) 0 what)))) w') : bm_Call bm_pg (d + 1300) y_X11_table [bm_r (some b), bm_i 0, bm_i what] w Φ :=
  co_table (d := d + 1273) h.1.1 (fun _ w' G Z => q w' (h.cO G Z)) (fun z => absurd ⟨lq_2, hw⟩ z)
theorem LW.ho {k : Int} (h : LW b Bf A B D X Y rows w) (hk : 0 ≤ k ∧ k < y_ct rows) (q : ∀ w', LW b Bf A B D X Y rows w' → Φ (.inl (some (bm_i (y_h (gp A B D rows) 0 k)))) w') : bm_Call bm_pg (d + 1300) y_X11_holds [bm_r (some b), bm_i 0, bm_i k] w Φ :=
  co_holds (d := d + 1273) h.1.1 (fun _ w' G Z => q w' (h.cO G Z)) (fun z => absurd ⟨(lq_2 (A := A) (B := B) (D := D) (rows := rows)).1, (lq_2 (A := A) (B := B) (D := D) (rows := rows)).2, hk⟩ z)
theorem LW.ta {v : Int} (h : LW b Bf A B D X Y rows w) (q : ∀ w', LW b Bf A B D X Y rows w' → Φ (.inl (some (bm_i (q_bump 1 (decide (v ≠ 0)) (s_tr D rows (y_ct rows).toNat) (fun _ => 0) 0)))) w') : bm_Call bm_pg (d + 1300) y_X11_taken [bm_r (some b), bm_i 0, bm_i v] w Φ :=
  co_taken (d := d + 1273) (nI := 1) h.1.1 h.1.2.2.2.1 (by decide) (fun _ w' G Z => q w' (h.cO G Z)) (fun z => absurd ⟨Int.le_refl 0, by decide⟩ z)
theorem LW.fi {p : Nat} (h : LW b Bf A B D X Y rows w) (hp : p < 6) (q : ∀ w', LW b Bf A B D X Y rows w' → Φ (.inl (some (bm_i (bm_bo (gf D rows p))))) w') : bm_Call bm_pg (d + 1300) y_X11_finds [bm_r (some b), bm_i 0, bm_i (p : Int)] w Φ :=
  co_finds (d := d + 1273) h.1.1 h.1.2.1 (fun _ w' G Z S => q w' (h.cL G.cL Z S h.2.1)) (fun z => absurd ⟨lq_2, Int.natCast_nonneg p, by show (p : Int) < 6; omega⟩ z)
theorem LW.sc (h : LW b Bf A B D X Y rows w) (q : ∀ w', LW b Bf A B D X Y rows w' → Φ (.inl (some (bm_d (y_sc (gp A B D rows) 0)))) w') : bm_Call bm_pg (d + 1300) y_X11_score [bm_r (some b), bm_i 0] w Φ :=
  co_score (d := d + 1273) h.1.1 h.1.2.1 (fun _ w' G Z S => q w' (h.cL G.cL Z S h.2.1)) (fun z => absurd lq_2 z)
theorem LW.gr (h : LW b Bf A B D X Y rows w) (h0 : 0 ≤ y_pp (gp A B D rows) 0) (h12 : rows.length < 12) (h100 : y_ct rows < 100) (q : ∀ w', LW b Bf A B D X Y (rows ++ [y_gR (gp A B D rows) 0]) w' → Φ (.inl (some (bm_i (y_ct rows + 1)))) w') : bm_Call bm_pg (d + 1300) y_X11_grow [bm_r (some b), bm_i 0] w Φ := by
  have ok : y_gok (gp A B D rows) 0 := ⟨h0, h12, h100⟩
  have hf : y_fk (y_tF (gp A B D rows) 0).2.1 := h.1.1.fk (g := 0) (by show 0 < 1; decide)
  have hin : y_inr (gp A B D (rows ++ [y_gR (gp A B D rows) 0])) := y_inr_gp h.2.1 (k := 0) (by show 0 < 1; decide) hf
  exact co_grow (d := d + 1275) h.1.1 h.1.2.1 h.2.1 (fun k hk => by
    have hk : k < 1 := hk
    obtain rfl : k = 0 := by omega
    show 0 < 1
    decide) (fun _ _ w' G Z S => q w' (h.cL G Z S hin)) (fun _ z => absurd ok z) (fun z => absurd lq_2 z)
theorem LW.sh (h : LW b Bf A B D X Y rows w) (q : ∀ w', LW b Bf A B D X Y (s_sh D 6 rows.length rows) w' → Φ (.inl (some (bm_i ((s_sh D 6 rows.length rows).length : Int)))) w') : bm_Call bm_pg (d + 1300) y_X11_shorten [bm_r (some b), bm_i 0] w Φ := by
  have hin : y_inr (gp A B D (s_sh D 6 rows.length rows)) := y_inr_st (k := 0) h.2.1 (by show 0 < 1; decide) (fun R hR => s_sh_mem _ _ hR)
  exact co_shorten (d := d + 1273) h.1.1 h.1.2.1 (fun _ w' G Z S => q w' (h.cL G Z S hin)) (fun z => absurd lq_2 z)
theorem LW.di (h : LW b Bf A B D X Y rows w) (q : ∀ w', LW b Bf A B D X Y rows w' → Φ (.inl (some (bm_l (yd_g (gp A B D rows) 1 0)))) w') : bm_Call bm_pg (d + 1300) y_X11_digest [bm_r (some b)] w Φ := by
  refine co_digest (d := d + 1273) (nI := 1) h.1.1 h.2.1 h.1.2.2.2.1 (by decide) (fun w' G Z => ?_)
  have e : bm_gi w (b + 1) 1 = ((0 : Nat) : Int) := h.1.2.2.1.2.1
  rw [e]
  exact q w' (h.cO G Z)
/-! from the end on -/
theorem s_635 (h : LW b Bf A B D X Y rows w) (e : s_sh D 6 rows.length rows = rows) (q : ∀ w', LW b Bf A B D X Y rows w' → Φ (.inl (some (bm_i 1))) w') : bk_L_law_635 (d + 1300) Φ b (rows.length : Int) (yd_g (gp A B D rows) 1 0) w := by
  refine vb_L_law_635 ⟨h.kt, h.sh (fun w1 h1 => ?_)⟩
  rw [e] at h1 ⊢
  rw [bm_c1_v, if_neg (by simp)]
  refine ⟨h1.kt, h1.di (fun w2 h2 => ?_)⟩
  rw [bm_c2_v, if_neg (by simp)]
  exact ⟨Or.inr rfl, q w2 h2⟩
theorem s_605 (h : LW b Bf A B D X Y rows w) (g : go rows) (e : s_sh D 6 rows.length rows = rows) (q : ∀ w', LW b Bf A B D X Y rows w' → Φ (.inl (some (bm_i 1))) w') : bk_L_law_605 (d + 1300) Φ b (rows.length : Int) w := by
  refine vb_L_law_605 ⟨h.kt, h.tb ⟨by decide, by decide⟩ (fun w1 h1 => ?_)⟩
  have e1 : y_told (gp A B D rows) 0 1 = (rows.length : Int) := rfl
  have e2 : y_told (gp A B D rows) 0 2 = (rows.length : Int) := go_ct g
  rw [bm_c1_v, e1, if_neg (by simp)]
  refine ⟨h1.kt, h1.tb ⟨by decide, by decide⟩ (fun w2 h2 => ?_)⟩
  rw [bm_c1_v, e2, if_pos (by simp)]
  refine vb_L_law_629 ⟨h2.kt, h2.di (fun w3 h3 => ?_)⟩
  rw [bm_c2_v]
  exact s_635 h3 e q
theorem s_581 (h : LW b Bf A B D X Y rows w) (g : go rows) (e : s_sh D 6 rows.length rows = rows) {v : Int} (h1 : 1 ≤ rows.length) (h2 : (rows.length : Int) ≤ 1 ∨ (rows.length : Int) ≤ v) (q : ∀ w', LW b Bf A B D X Y rows w' → Φ (.inl (some (bm_i 1))) w') : bk_L_law_581 (d + 1300) Φ b v (rows.length : Int) v w := by
  refine vb_L_law_581 ?_
  rw [if_neg (by simp), if_neg (by simp only [decide_eq_true_eq]; omega)]
  refine ⟨rfl, ?_⟩
  rw [if_neg (by simp only [decide_eq_true_eq]; split <;> omega)]
  exact s_605 h g e q
theorem u_c_6 (f : Nat → Bool) (i : Nat) (hi : i ≤ 6) : 0 ≤ u_c f i ∧ u_c f i ≤ 6 := by
  have := u_c_rng f i
  omega
theorem lq_w {x : Int} (h0 : -10 ≤ x) (h1 : x ≤ 2000) : bm_w x = x := q_wI ⟨by omega, by omega⟩
theorem s_548 (g : go rows) (e : s_sh D 6 rows.length rows = rows) {v : Int} (h1 : 1 ≤ rows.length) (h2 : (rows.length : Int) ≤ 1 ∨ (rows.length : Int) ≤ v) (hv : s_fn D rows 6 = v) (q : ∀ w', LW b Bf A B D X Y rows w' → Φ (.inl (some (bm_i 1))) w') : ∀ (n i : Nat) (w : bm_W), i + n = 6 → LW b Bf A B D X Y rows w → bk_L_law_548 (d + 1300) Φ b v (rows.length : Int) (u_c (gf D rows) i) (i : Int) w
  | 0, i, w, hi, h => by
    obtain rfl : i = 6 := by omega
    refine vb_L_law_548 ?_
    rw [if_pos (by decide)]
    have e2 : u_c (gf D rows) 6 = v := hv
    rw [e2]
    exact s_581 h g e h1 h2 q
  | n + 1, i, w, hi, h => by
    refine vb_L_law_548 ?_
    rw [if_neg (by simp only [decide_eq_true_eq]; omega)]
    refine ⟨h.kt, h.fi (by omega) (fun w1 k1 => ?_)⟩
    have ih := s_548 g e h1 h2 hv q n (i + 1) w1 (by omega) k1
    have r := u_c_6 (gf D rows) i (by omega)
    have ei : ((i + 1 : Nat) : Int) = (i : Int) + 1 := by omega
    have es : u_c (gf D rows) (i + 1) = u_c (gf D rows) i + bm_bo (gf D rows i) := rfl
    rw [ei, es] at ih
    rw [bm_c1_v, lq_w (x := (i : Int) + 1) (by omega) (by omega)]
    cases c : gf D rows i with
    | false =>
      rw [c] at ih
      rw [if_pos (by decide), lq_w (by omega) (by omega)]
      exact ih
    | true =>
      rw [c] at ih
      rw [if_neg (by decide), lq_w (by omega) (by omega)]
      exact ih
theorem s_535 (h : LW b Bf A B D X Y rows w) (g : go rows) (h1 : 1 ≤ rows.length) (q : ∀ w' rows', LW b Bf A B D X Y rows' w' → Φ (.inl (some (bm_i 1))) w') : bk_L_law_535 (d + 1300) Φ b (s_fn D rows 6) w := by
  obtain ⟨a1, a2, a3, a4⟩ := sh_all (D := D) (P := 6) h1
  have g' : go (s_sh D 6 rows.length rows) := fun R hR => g R (s_sh_mem _ _ hR)
  refine vb_L_law_535 ⟨h.kt, h.sh (fun w1 k1 => ?_)⟩
  rw [bm_c1_v]
  exact s_548 g' a4 a2 a3 a1 (fun w' z => q w' _ z) 6 0 w1 rfl k1
theorem s_fp : ∀ n, n < 7 → vf_n64 (FP.ddiv (FP.i2d (Int32.ofInt ((n : Nat) : Int))) (4618441417868443648 : UInt64)) ∧ FP.dcmp (FP.ddiv (FP.i2d (Int32.ofInt ((n : Nat) : Int))) (FP.i2d (Int32.ofInt ((6 : Nat) : Int)))) (FP.ddiv (FP.i2d (Int32.ofInt ((n : Nat) : Int))) (4618441417868443648 : UInt64)) = some .eq := by
  unfold vf_n64
  decide +kernel
theorem s_517 (h : LW b Bf A B D X Y rows w) (g : go rows) (h1 : 1 ≤ rows.length) (q : ∀ w' rows', LW b Bf A B D X Y rows' w' → Φ (.inl (some (bm_i 1))) w') : bk_L_law_517 (d + 1300) Φ b (s_fn D rows 6) w := by
  refine vb_L_law_517 ⟨h.kt, h.sc (fun w1 k1 => ?_)⟩
  have r := u_c_6 (gf D rows) 6 (Nat.le_refl 6)
  have r : 0 ≤ s_fn D rows 6 ∧ s_fn D rows 6 ≤ 6 := r
  have e : y_sc (gp A B D rows) 0 = FP.ddiv (FP.i2d (Int32.ofInt (s_fn D rows 6))) (FP.i2d (Int32.ofInt ((6 : Nat) : Int))) := if_neg (by show ¬ (6 : Nat) = 0; decide)
  have z := s_535 (d := d) k1 g h1 q
  rw [bm_c4_v, e]
  obtain ⟨n, hn⟩ : ∃ n : Nat, s_fn D rows 6 = (n : Int) := ⟨(s_fn D rows 6).toNat, by omega⟩
  rw [hn] at r z ⊢
  obtain ⟨f1, f2⟩ := s_fp n (by omega)
  refine ⟨f1, ?_⟩
  rw [if_pos (decide_eq_true f2)]
  exact z
theorem s_484 (g : go rows) (h1 : 1 ≤ rows.length) (q : ∀ w' rows', LW b Bf A B D X Y rows' w' → Φ (.inl (some (bm_i 1))) w') : ∀ (n i : Nat) (w : bm_W), i + n = 6 → LW b Bf A B D X Y rows w → bk_L_law_484 (d + 1300) Φ b (u_c (gf D rows) i) (i : Int) w
  | 0, i, w, hi, h => by
    obtain rfl : i = 6 := by omega
    refine vb_L_law_484 ?_
    rw [if_pos (by decide)]
    exact s_517 h g h1 q
  | n + 1, i, w, hi, h => by
    refine vb_L_law_484 ?_
    rw [if_neg (by simp only [decide_eq_true_eq]; omega)]
    refine ⟨h.kt, h.fi (by omega) (fun w1 k1 => ?_)⟩
    have ih := s_484 g h1 q n (i + 1) w1 (by omega) k1
    have r := u_c_6 (gf D rows) i (by omega)
    have ei : ((i + 1 : Nat) : Int) = (i : Int) + 1 := by omega
    have es : u_c (gf D rows) (i + 1) = u_c (gf D rows) i + bm_bo (gf D rows i) := rfl
    rw [ei, es] at ih
    rw [bm_c1_v, lq_w (x := (i : Int) + 1) (by omega) (by omega)]
    cases c : gf D rows i with
    | false =>
      rw [c] at ih
      rw [if_pos (by decide), lq_w (by omega) (by omega)]
      exact ih
    | true =>
      rw [c] at ih
      rw [if_neg (by decide), lq_w (by omega) (by omega)]
      exact ih
theorem s_454 (h : LW b Bf A B D X Y rows w) (hD : gb_1 D) (g : go rows) (h1 : 1 ≤ rows.length) (h12 : rows.length ≤ 12) (q : ∀ w' rows', LW b Bf A B D X Y rows' w' → Φ (.inl (some (bm_i 1))) w') : bk_L_law_454 (d + 1300) Φ b w := by
  obtain ⟨x, y, e, e1, e2⟩ := gb_tr hD g rows.length (Nat.le_refl _) (by omega)
  have ct := go_ct g
  have cn : (y_ct rows).toNat = rows.length := by rw [ct, Int.toNat_natCast]
  refine vb_L_law_454 ⟨h.kt, h.ta (fun w1 k1 => ?_)⟩
  rw [bm_c1_v]
  refine ⟨k1.kt, k1.ta (fun w2 k2 => ?_)⟩
  rw [bm_c1_v]
  refine ⟨k2.kt, k2.tb ⟨by decide, by decide⟩ (fun w3 k3 => ?_)⟩
  have t1 : decide ((1 : Int) ≠ 0) = true := rfl
  have t0 : decide ((0 : Int) ≠ 0) = false := rfl
  have e3 : y_told (gp A B D rows) 0 2 = (rows.length : Int) := ct
  rw [bm_c1_v, t1, t0, cn, e1, e2, e3, lq_w (by omega) (by omega), if_pos (by simp only [decide_eq_true_eq]; omega)]
  refine vb_L_law_478 ?_
  exact s_484 g h1 q 6 0 w3 rfl k3
theorem s_426 (h : LW b Bf A B D X Y rows w) (hD : gb_1 D) (g : go rows) (hh : gh D rows) (h1 : 1 ≤ rows.length) (h12 : rows.length ≤ 12) (q : ∀ w' rows', LW b Bf A B D X Y rows' w' → Φ (.inl (some (bm_i 1))) w') : bk_L_law_426 (d + 1300) Φ b w := by
  have ct := go_ct g
  have cn : (y_ct rows).toNat = rows.length := by rw [ct, Int.toNat_natCast]
  have hk : ∀ k : Nat, 1 ≤ k → k < rows.length → y_h (gp A B D rows) 0 (k : Int) = 1 := fun k a c => (go_hold g c (-1)).trans (hh k a c)
  have e4 : y_told (gp A B D rows) 0 4 = s_fst (y_h (gp A B D rows) 0) 0 (y_ct rows).toNat := rfl
  have e3 : y_told (gp A B D rows) 0 3 = s_cnt (y_h (gp A B D rows) 0) (y_ct rows).toNat := rfl
  have e2 : y_told (gp A B D rows) 0 2 = (rows.length : Int) := ct
  have f4 := gh_fst (h := y_h (gp A B D rows) 0) rows.length hk
  have f3 := gh_cnt (h := y_h (gp A B D rows) 0) rows.length hk
  refine vb_L_law_426 ⟨h.kt, h.tb ⟨by decide, by decide⟩ (fun w1 k1 => ?_)⟩
  rw [bm_c1_v, e4, cn, if_neg (by simp only [decide_eq_true_eq]; omega)]
  refine vb_L_law_435 ⟨k1.kt, k1.tb ⟨by decide, by decide⟩ (fun w2 k2 => ?_)⟩
  rw [bm_c1_v]
  refine ⟨k2.kt, k2.tb ⟨by decide, by decide⟩ (fun w3 k3 => ?_)⟩
  rw [bm_c1_v, e2, e3, cn, lq_w (by omega) (by omega), if_pos (by simp only [decide_eq_true_eq]; omega)]
  exact s_454 k3 hD g h1 h12 q
theorem s_375 (h : LW b Bf A B D X Y rows w) (hA : 1 ≤ A ∧ A ≤ 4) (hB : 1 ≤ B ∧ B ≤ 3) (hD : gb_1 D) (g : go rows) (hh : gh D rows) (h1 : 1 ≤ rows.length) (h12 : rows.length ≤ 12) (hx : y_pp (gp A B D rows) 0 < 0 ∨ rows.length = 12) (q : ∀ w' rows', LW b Bf A B D X Y rows' w' → Φ (.inl (some (bm_i 1))) w') : bk_L_law_375 (d + 1300) Φ b w := by
  have no := gp_none (D := D) (rows := rows) hA hB
  have s405 : ∀ w, LW b Bf A B D X Y rows w → bk_L_law_405 (d + 1300) Φ b w := by
    intro w h
    refine vb_L_law_405 ⟨h.kt, h.pp (fun w1 k1 => ?_)⟩
    rw [bm_c1_v]
    by_cases c : y_pp (gp A B D rows) 0 < 0
    · rw [if_pos (decide_eq_true c)]
      exact s_426 k1 hD g hh h1 h12 q
    · rw [if_neg (by simp only [decide_eq_true_eq]; exact c)]
      refine ⟨k1.kt, k1.tb ⟨by decide, by decide⟩ (fun w2 k2 => ?_)⟩
      have e1 : y_told (gp A B D rows) 0 1 = (rows.length : Int) := rfl
      rw [bm_c1_v, e1, if_pos (by simp only [decide_eq_true_eq]; omega)]
      exact s_426 k2 hD g hh h1 h12 q
  refine vb_L_law_375 ⟨h.kt, h.pp (fun w1 k1 => ?_)⟩
  rw [bm_c1_v]
  by_cases c : y_pp (gp A B D rows) 0 < 0
  · rw [if_neg (by simp only [decide_eq_true_eq]; omega)]
    refine vb_L_law_388 ⟨k1.kt, k1.fn ⟨by decide, by decide⟩ (fun w2 k2 => ?_)⟩
    rw [bm_c1_v, no.mp c, if_neg (by decide), if_neg (by decide)]
    exact s405 w2 k2
  · rw [if_pos (by simp only [decide_eq_true_eq]; omega)]
    refine vb_L_law_388 ⟨k1.kt, k1.fn ⟨by decide, by decide⟩ (fun w2 k2 => ?_)⟩
    have c2 : ¬ y_ft (gp A B D rows) 0 5 = 0 := fun z => c (no.mpr z)
    rw [bm_c1_v, if_pos (by simp only [Bool.not_eq_true', decide_eq_false_iff_not]; exact c2), if_neg (by decide)]
    exact s405 w2 k2
/-- the table grows -/
theorem s_292 (hA : 1 ≤ A ∧ A ≤ 4) (hB : 1 ≤ B ∧ B ≤ 3) (hD : gb_1 D) (q : ∀ w' rows', LW b Bf A B D X Y rows' w' → Φ (.inl (some (bm_i 1))) w') : ∀ (n i : Nat) (rows : List y_rw) (w : bm_W), i + n = 11 → rows.length = i + 1 → LW b Bf A B D X Y rows w → go rows → gh D rows → bk_L_law_292 (d + 1300) Φ b (y_ft (gp A B D rows) 0 5) (i : Int) w := by
  intro n
  induction n with
  | zero =>
    intro i rows w hi hr h g hh
    refine vb_L_law_292 ?_
    rw [if_neg (by simp only [decide_eq_true_eq]; omega)]
    refine vb_L_law_299 ⟨h.kt, h.pp (fun w1 k1 => ?_)⟩
    rw [bm_c1_v]
    by_cases c : y_pp (gp A B D rows) 0 < 0
    · rw [if_pos (decide_eq_true c)]
      exact s_375 k1 hA hB hD g hh (by omega) (by omega) (Or.inl c) q
    · rw [if_neg (by simp only [decide_eq_true_eq]; exact c)]
      refine ⟨k1.kt, k1.tb ⟨by decide, by decide⟩ (fun w2 k2 => ?_)⟩
      have e1 : y_told (gp A B D rows) 0 1 = (rows.length : Int) := rfl
      rw [bm_c1_v, e1, if_pos (by simp only [decide_eq_true_eq]; omega)]
      exact s_375 k2 hA hB hD g hh (by omega) (by omega) (Or.inr (by omega)) q
  | succ n ih =>
    intro i rows w hi hr h g hh
    refine vb_L_law_292 ?_
    rw [if_neg (by simp only [decide_eq_true_eq]; omega)]
    refine vb_L_law_299 ⟨h.kt, h.pp (fun w1 k1 => ?_)⟩
    rw [bm_c1_v]
    by_cases c : y_pp (gp A B D rows) 0 < 0
    · rw [if_pos (decide_eq_true c)]
      exact s_375 k1 hA hB hD g hh (by omega) (by omega) (Or.inl c) q
    · rw [if_neg (by simp only [decide_eq_true_eq]; exact c)]
      refine ⟨k1.kt, k1.tb ⟨by decide, by decide⟩ (fun w2 k2 => ?_)⟩
      have e1 : y_told (gp A B D rows) 0 1 = (rows.length : Int) := rfl
      have ct := go_ct g
      have e2 : y_told (gp A B D rows) 0 2 = (rows.length : Int) := ct
      rw [bm_c1_v, e1, if_neg (by simp only [decide_eq_true_eq]; omega)]
      refine vb_L_law_318 ⟨k2.kt, k2.tb ⟨by decide, by decide⟩ (fun w3 k3 => ?_)⟩
      rw [bm_c1_v, e2]
      have g' : go (rows ++ [y_gR (gp A B D rows) 0]) := gw_go g gw_cs
      have hh' : gh D (rows ++ [y_gR (gp A B D rows) 0]) := gw_gh k3.loc hh
      have lt := gp_grow (D := D) (rows := rows) hA hB (by omega)
      have hl : (rows ++ [y_gR (gp A B D rows) 0]).length = rows.length + 1 := by rw [List.length_append]; rfl
      have ct' := go_ct g'
      have hld : y_h (gp A B D (rows ++ [y_gR (gp A B D rows) 0])) 0 (rows.length : Int) = 1 := (go_hold g' (by omega) (-1)).trans (hh' rows.length (by omega) (by omega))
      refine vb_L_law_326 ⟨k3.kt, k3.gr (by omega) (by omega) (by omega) (fun w4 k4 => ?_)⟩
      generalize rows ++ [y_gR (gp A B D rows) 0] = rows2 at g' hh' lt hl ct' hld k4 ⊢
      rw [bm_c1_v, ct, lq_w (x := (rows.length : Int) + 1) (by omega) (by omega), if_neg (by simp)]
      refine ⟨k4.kt, k4.ho ⟨by omega, by omega⟩ (fun w5 k5 => ?_)⟩
      rw [bm_c1_v, hld, if_neg (by decide)]
      refine ⟨k5.kt, k5.fn ⟨by decide, by decide⟩ (fun w6 k6 => ?_)⟩
      rw [bm_c1_v, if_pos (decide_eq_true lt)]
      refine vb_L_law_361 ⟨k6.kt, k6.fn ⟨by decide, by decide⟩ (fun w7 k7 => ?_)⟩
      rw [bm_c1_v, lq_w (x := (i : Int) + 1) (by omega) (by omega), show (i : Int) + 1 = ((i + 1 : Nat) : Int) by omega]
      exact ih (i + 1) rows2 w7 (by omega) (by omega) k7 g' hh'
theorem s_281 (h : LW b Bf A B D X Y rows w) (hA : 1 ≤ A ∧ A ≤ 4) (hB : 1 ≤ B ∧ B ≤ 3) (hD : gb_1 D) (g : go rows) (hh : gh D rows) (h1 : rows.length = 1) (q : ∀ w' rows', LW b Bf A B D X Y rows' w' → Φ (.inl (some (bm_i 1))) w') : bk_L_law_281 (d + 1300) Φ b w := by
  refine vb_L_law_281 ⟨h.kt, h.fn ⟨by decide, by decide⟩ (fun w1 k1 => ?_)⟩
  rw [bm_c1_v]
  exact s_292 hA hB hD q 11 0 rows w1 rfl h1 k1 g hh
end LQ
