/-! ===== reading in the class: rows, second half ===== -/
/-- a table on the way -/
def yh (t : Nat) (B : Int → Int) (pr : y_pr) (nm g : Nat) (rows : List y_rw) (q : Nat) (w : bm_W) : Prop := yl t B pr q w ∧ pr.2.length < 6 ∧ g < pr.1.length ∧ bm_gl w (pg_tb (t + 4) (pr.2.length : Int)) 3 = t_V B nm ∧ bm_gi w (pg_tb (t + 4) (pr.2.length : Int)) 4 = (g : Int) ∧ yrs (pg_tb (t + 4) (pr.2.length : Int)) rows w ∧ y_ct rows ≤ 100
theorem pg_tb_r (p : Nat) (i : Int) : p + 11 ≤ pg_tb p i ∧ pg_tb p i ≤ p + 101 := ⟨(pg_tb_rng p i).1, (pg_tb_rng p i).2.1⟩
theorem pg_tb_in (p i : Nat) (h : i < 6) : pg_tb p (i : Int) = p + 66 + 7 * i := by
  unfold pg_tb
  rw [if_pos (by omega)]
  omega
/-- a block of a function lies off the tables and their rows -/
theorem pg_fn_off (t : Nat) (i : Int) : pg_fn (t + 4) i = t + 7 ∨ (t + 22 ≤ pg_fn (t + 4) i ∧ pg_fn (t + 4) i ≤ t + 62) := by
  rcases (pg_fn_rng (t + 4) i).2.2 with z | ⟨j, z, y⟩
  · exact Or.inl (by omega)
  · exact Or.inr (by omega)
theorem pg_tb_off (t : Nat) (i : Int) : pg_tb (t + 4) i = t + 15 ∨ (t + 70 ≤ pg_tb (t + 4) i ∧ pg_tb (t + 4) i ≤ t + 105) := by
  rcases (pg_tb_rng (t + 4) i).2.2 with z | ⟨j, z, y⟩
  · exact Or.inl (by omega)
  · exact Or.inr (by omega)
theorem mul_bd {a b A C : Int} (h1 : 1 ≤ a) (h2 : a ≤ A) (h3 : 1 ≤ b) (h4 : b ≤ C) : 1 ≤ a * b ∧ a * b ≤ A * C := by
  have x1 : 1 * 1 ≤ a * b := Int.mul_le_mul h1 h3 (by decide) (by omega)
  have x2 : a * b ≤ A * C := Int.mul_le_mul h2 h4 (by omega) (by omega)
  exact ⟨by omega, x2⟩
/-- what a fair row tells of cases -/
theorem yrw_rc {r : Nat} {l : List (Int × Int)} {w : bm_W} (h : ∀ c, c < 3 → bm_gi w (r + 2) c = (l.getD c (0, 0)).1 ∧ bm_gi w (r + 3) c = (l.getD c (0, 0)).2) (hl : l.length ≤ 3) (hf : ∀ c, c < l.length → -20 ≤ (l.getD c (0, 0)).1 ∧ (l.getD c (0, 0)).1 ≤ (l.getD c (0, 0)).2 ∧ (l.getD c (0, 0)).2 ≤ 20) : rg_rc w (r + 1) = y_cs l ∧ 1 ≤ y_cs l ∧ y_cs l ≤ 68921 := by
  have wd : ∀ c : Nat, c < 3 → rg_wd w (r + 1) (c : Int) = y_wd (l.getD c (0, 0)) ∧ 1 ≤ y_wd (l.getD c (0, 0)) ∧ y_wd (l.getD c (0, 0)) ≤ 41 := fun c hc => by
    have a := h c hc
    have b : -20 ≤ (l.getD c (0, 0)).1 ∧ (l.getD c (0, 0)).1 ≤ (l.getD c (0, 0)).2 ∧ (l.getD c (0, 0)).2 ≤ 20 := by
      rcases Nat.lt_or_ge c l.length with z | z
      · exact hf c z
      · rw [List.getD_eq_getElem?_getD, List.getElem?_eq_none z]
        decide
    have e : rg_wd w (r + 1) (c : Int) = bm_w (bm_w ((l.getD c (0, 0)).2 - (l.getD c (0, 0)).1) + 1) := by
      show bm_w (bm_w (rg_hi w (r + 1) (c : Int) - rg_lo w (r + 1) (c : Int)) + 1) = _
      unfold rg_hi rg_lo
      rw [if_pos ⟨by omega, by omega⟩, if_pos ⟨by omega, by omega⟩, Int.toNat_natCast]
      show bm_w (bm_w (bm_gi w (r + 3) c - bm_gi w (r + 2) c) + 1) = _
      rw [a.1, a.2]
    rw [e]
    unfold y_wd
    rw [q_wI (x := (l.getD c (0, 0)).2 - (l.getD c (0, 0)).1) ⟨by omega, by omega⟩, q_wI ⟨by omega, by omega⟩]
    omega
  have w0 := wd 0 (by decide)
  have w1 := wd 1 (by decide)
  have w2 := wd 2 (by decide)
  have m1 := mul_bd w0.2.1 w0.2.2 w1.2.1 w1.2.2
  have m2 := mul_bd m1.1 m1.2 w2.2.1 w2.2.2
  have e : rg_rc w (r + 1) = y_wd (l.getD 0 (0, 0)) * y_wd (l.getD 1 (0, 0)) * y_wd (l.getD 2 (0, 0)) := by
    show bm_w (bm_w (rg_wd w (r + 1) ((0 : Nat) : Int) * rg_wd w (r + 1) ((1 : Nat) : Int)) * rg_wd w (r + 1) ((2 : Nat) : Int)) = _
    rw [w0.1, w1.1, w2.1, q_wI (x := y_wd (l.getD 0 (0, 0)) * y_wd (l.getD 1 (0, 0))) ⟨by omega, by omega⟩, q_wI ⟨by omega, by omega⟩]
  have e2 : y_cs l = y_wd (l.getD 0 (0, 0)) * y_wd (l.getD 1 (0, 0)) * y_wd (l.getD 2 (0, 0)) := by
    match l, hl with
    | [], _ => rfl
    | [a], _ => simp [y_cs, y_wd]
    | [a, b], _ => simp [y_cs, y_wd]
    | [a, b, c], _ => simp [y_cs, Int.mul_assoc]
    | _ :: _ :: _ :: _ :: _, h => simp at h
  rw [e, e2]
  exact ⟨rfl, m2.1, by omega⟩
theorem y_ct_app (rows : List y_rw) (R : y_rw) : y_ct (rows ++ [R]) = y_ct rows + y_cs R.1 := by
  induction rows with
  | nil => simp [y_ct]
  | cons a l ih => rw [List.cons_append]; simp only [y_ct]; rw [ih]; omega
/-- tables that are kept stay while another one changes -/
theorem yts.mvT {t T r : Nat} {k0 : Int} {B : Int → Int} {ts : List y_tb} {w w' : bm_W} (h : yts t B ts w) (ho : rw_ok t w) (hT : T = pg_tb (t + 4) k0) (hk : ∀ k, k < ts.length → pg_tb (t + 4) (k : Int) ≠ T) (h5 : bm_gi w' (t + 4) 5 = bm_gi w (t + 4) 5) (hr : r = T + 2 ∨ t + 125 ≤ r) (hap : ∀ T' j r', rw_at t w T' j r' → T' ≠ T → r' + 4 ≤ r ∨ r + 4 ≤ r') (hg : ∀ a j, a < bm_sz w → ¬ (a = t ∨ a = t + 112 ∨ a = T ∨ (r ≤ a ∧ a ≤ r + 3)) → bm_gi w' a j = bm_gi w a j ∧ bm_gl w' a j = bm_gl w a j) (hgr : ∀ a j, a < bm_sz w → a ≠ T + 1 → a ≠ t + 112 → bm_gr w' a j = bm_gr w a j) : yts t B ts w' := by
  refine ⟨h5.trans h.1, h.2.1, fun k hk1 => ?_⟩
  have e := pg_tb_in (t + 4) k (by have := h.2.1; omega)
  have os := ho.1
  have ne := hk k hk1
  have off : ∃ j, T = t + 15 ∨ (T = t + 70 + 7 * j ∧ j < 6) := by
    rcases (pg_tb_rng (t + 4) k0).2.2 with z | ⟨j, z, y⟩
    · exact ⟨0, Or.inl (by omega)⟩
    · exact ⟨j, Or.inr ⟨by omega, y⟩⟩
  obtain ⟨j0, off⟩ := off
  have hb := h.2.2 k hk1
  unfold ytb at hb ⊢
  rw [e] at hb ne ⊢
  have k6 : k < 6 := by have := h.2.1; omega
  have g : ∀ j, bm_gi w' (t + 4 + 66 + 7 * k) j = bm_gi w (t + 4 + 66 + 7 * k) j ∧ bm_gl w' (t + 4 + 66 + 7 * k) j = bm_gl w (t + 4 + 66 + 7 * k) j := fun j => hg _ j (by omega) (by omega)
  refine ⟨(g 3).2.trans hb.1, (g 4).1.trans hb.2.1, hb.2.2.bk (fun j => (g j).1) (fun j => hgr _ j (by omega) (by omega) (by omega)) (fun i r' hi hr' => ?_)⟩
  have at1 : rw_at t w (t + 4 + 66 + 7 * k) i r' := ⟨⟨(k : Int), e.symm⟩, by have := hb.2.2.2.1; omega, hr'⟩
  have a1 := ho.2.1 _ _ _ at1
  have a2 := hap _ _ _ at1 ne
  exact fun b x y j => hg b j (by omega) (by omega)
section RR
variable {d t f T r N c : Nat} {B : Int → Int} {s : Bool × Nat} {w : bm_W} {Φ : bm_Rt → bm_W → Prop} {pr : y_pr} {nm g p : Nat} {rows : List y_rw} {l : List (Int × Int)}
def y_row73 (K V : Nat → Int) (ins : List y_in) (rows : List y_rw) (p c : Nat) (l : List (Int × Int)) (q : Nat) : (Int × Nat) ⊕ List y_rw :=
  if c ≠ ins.length then .inl (6, p) else if 100 < y_ct (rows ++ [(l, y_res K V (q + 1))]) then .inl (4, p) else .inr (rows ++ [(l, y_res K V (q + 1))])
theorem y_row_eq {K V : Nat → Int} {ins : List y_in} {rows : List y_rw} {p : Nat} : y_row K V ins rows p = if 12 ≤ rows.length then .inl (4, p) else y_b (y_cls K V ins f_T [] 0 p) fun lc => y_row73 K V ins rows p lc.2 lc.1 (f_cls K f_T (false, p)).2 := by
  unfold y_row y_row73
  rfl
/-- cells, read to the end, in a table that stands so far -/
def yk (t : Nat) (B : Int → Int) (pr : y_pr) (nm g : Nat) (rows : List y_rw) (r c : Nat) (l : List (Int × Int)) (q : Nat) (w : bm_W) : Prop := yh t B pr nm g rows q w ∧ rows.length < 12 ∧ ycl r (pr.1.getD g y_f0).2.1 c l w ∧ bm_gr w (pg_tb (t + 4) (pr.2.length : Int) + 1) rows.length = some r ∧ bm_gl w r 2 = 0 ∧ bm_gi w r 4 = 0
theorem yk.mv {q q' : Nat} {w' : bm_W} (h : yk t B pr nm g rows r c l q w) (ho : rw_ok t w) (hF : q_fr (fun a => a = t ∨ a = t + 112) w w') (hI : y_I (t_K B) q' = y_I (t_K B) q) : yk t B pr nm g rows r c l q' w' := by
  obtain ⟨⟨⟨a1, a2, a3⟩, a4, a5, a6, a7, a8, a9⟩, b1, b2, b3, b4, b5⟩ := h
  have e := pg_tb_in (t + 4) pr.2.length a4
  have r1 := ho.2.1 _ _ _ ⟨⟨_, rfl⟩, b1, b3⟩
  refine ⟨⟨⟨a1.bk (hF.gi (by omega)) (fun x hx a u v j => ?_), a2.mv ho (hF.gi (by omega)) (fun a j u v z => ⟨⟨hF.gi (by omega), hF.gl (by omega)⟩, by rw [hF.gr]⟩), by rw [hF.gi (by omega), hI]; exact a3⟩, a4, a5, by rw [hF.gl (by omega)]; exact a6, by rw [hF.gi (by omega)]; exact a7, a8.bk (fun j => hF.gi (by omega)) (fun j => by rw [hF.gr]) (fun i r' hi hr' => ?_), a9⟩, b1, ⟨fun i hi => ?_, fun i x y => ?_, b2.2.2⟩, by rw [hF.gr]; exact b3, by rw [hF.gl (by omega)]; exact b4, by rw [hF.gi (by omega)]; exact b5⟩
  · have := pg_fn_r (t + 4) (x : Int)
    exact ⟨hF.gi (by omega), hF.gl (by omega)⟩
  · have := ho.2.1 _ i r' ⟨⟨_, rfl⟩, by omega, hr'⟩
    exact fun b x y j => ⟨hF.gi (by omega), hF.gl (by omega)⟩
  · rw [hF.gi (by omega), hF.gi (by omega)]; exact b2.1 i hi
  · rw [hF.gi (by omega), hF.gi (by omega)]; exact b2.2.1 i x y
end RR
