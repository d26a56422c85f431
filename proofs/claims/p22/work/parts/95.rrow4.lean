/-! ===== reading in the class: rows from their first token on ===== -/
section RR
variable {d t f T r N c : Nat} {B : Int → Int} {s : Bool × Nat} {w : bm_W} {Φ : bm_Rt → bm_W → Prop} {pr : y_pr} {nm g p : Nat} {rows : List y_rw} {l : List (Int × Int)}
/-- a table on the way stays while a row behind it changes -/
theorem yh_mv {q q' : Nat} {w' : bm_W} (h : yh t B pr nm g rows q w) (ho : rw_ok t w) (hT : T = pg_tb (t + 4) (pr.2.length : Int)) (h156 : t + 125 ≤ r) (hap : ∀ T' j r', rw_at t w T' j r' → (T' = T ∧ j = rows.length) ∨ r' + 4 ≤ r ∨ r + 4 ≤ r') (hg : ∀ a j, a < bm_sz w → ¬ (a = t ∨ a = t + 112 ∨ (r ≤ a ∧ a ≤ r + 3)) → bm_gi w' a j = bm_gi w a j ∧ bm_gl w' a j = bm_gl w a j) (hgr : ∀ a j, a < bm_sz w → a ≠ T + 1 → a ≠ t + 112 → bm_gr w' a j = bm_gr w a j) (hgT : ∀ j : Nat, j ≠ rows.length → bm_gr w' (T + 1) j = bm_gr w (T + 1) j) (hI : y_I (t_K B) q' = y_I (t_K B) q) : yh t B pr nm g rows q' w' := by
  obtain ⟨⟨a1, a2, a3⟩, a4, a5, a6, a7, a8, a9⟩ := h
  have e := pg_tb_in (t + 4) pr.2.length a4
  have os := ho.1
  rw [← hT] at e
  unfold yh
  rw [← hT] at a6 a7 a8 ⊢
  refine ⟨⟨a1.bk (hg _ _ (by omega) (by omega)).1 (fun x hx a u v j => ?_), a2.mvT (r := r) ho hT (fun k hk => ?_) (hg _ _ (by omega) (by omega)).1 (Or.inr h156) (fun T' j r' at1 ne => (hap _ _ _ at1).resolve_left (fun z => ne z.1)) (fun a j h1 h2 => hg a j h1 (fun z => h2 (by omega))) hgr, by rw [(hg _ _ (by omega) (by omega)).1, hI]; exact a3⟩, a4, a5, by rw [(hg _ _ (by omega) (by omega)).2]; exact a6, by rw [(hg _ _ (by omega) (by omega)).1]; exact a7, ?_, a9⟩
  · have := pg_fn_off t (x : Int)
    exact hg _ _ (by omega) (by omega)
  · rw [pg_tb_in (t + 4) k (by omega), e]
    omega
  · obtain ⟨u1, u2, u3, u4, u5, u6⟩ := a8
    have gT : ∀ j, bm_gi w' T j = bm_gi w T j := fun j => (hg _ _ (by omega) (by omega)).1
    refine ⟨(gT 5).trans u1, u2, (gT 6).trans u3, u4, u5, fun i hi => ?_⟩
    obtain ⟨r', q1, q2, q3⟩ := u6 i hi
    have at1 : rw_at t w T i r' := ⟨⟨_, hT⟩, by omega, q1⟩
    have o := ho.2.1 _ _ _ at1
    have ap := (hap _ _ _ at1).resolve_left (fun z => by omega)
    have bk : q_bk r' 4 w w' := fun b x y j => hg b j (by omega) (by omega)
    exact ⟨r', (hgT i (by omega)).trans q1, q2.bk bk, (bk r' (by omega) (by omega) 4).1.trans q3⟩
theorem rd_row (hc : ci t N B s w) (hgT : bm_gr w (t + 112) 5 = some T) (hT : T = pg_tb (t + 4) (bm_gi w (t + 4) 5)) (hg : bm_gr w (t + 112) 4 = some f) (hff : ∃ i : Int, f = pg_fn (t + 4) i)
    (hl : s.1 = false → bm_gi w (t + 112) 2 = 0 → yh t B pr nm g rows s.2 w ∧ f = pg_fn (t + 4) (g : Int))
    (hq : ∀ w', ci t N B (f_row (t_K B) s) w' → kf t w w' → bm_gr w' (t + 112) 5 = some T → bm_gr w' (t + 112) 4 = some f → bm_gi w' (t + 4) 5 = bm_gi w (t + 4) 5 → pz t B (f_row (t_K B) s) (y_row (t_K B) (t_V B) (pr.1.getD g y_f0).2.1 rows s.2) (fun rows' => yh t B pr nm g rows' (f_row (t_K B) s).2 w') w w' → Φ (.inl none) w') : bm_Call bm_pg (d + 7) y_X0_readRow [bm_r (some (t + 112))] w Φ := by
  have hcc := hc
  obtain ⟨c1, c2, c3, c4, c5, c6, c7, c8⟩ := hc
  have offT := pg_tb_off t (bm_gi w (t + 4) 5)
  rw [← hT] at offT
  have hTb : sh_Tb T w := by rw [hT]; exact c3.tb _
  have offF : f = t + 7 ∨ (t + 22 ≤ f ∧ f ≤ t + 62) := by
    obtain ⟨i, hi⟩ := hff
    rw [hi]; exact pg_fn_off t i
  have os := c5.1
  have K0 := c1.1.2.2.2
  -- behind the count of rows
  have tail : ∀ (w0 : bm_W) (r0 : (Int × Nat) ⊕ Unit), tf t w w0 → rt t N f_T B s w0 → pz t B s r0 (fun _ => True) w w0 → (s.1 = false → bm_gi w (t + 112) 2 = 0 → r0 = if 12 ≤ rows.length then .inl (4, s.2) else .inr ()) →
      bm_Call bm_pg (d + 6) y_X7_nextRow [bm_r (some T)] w0 (fun r2 w2 =>
        bm_c3 (fun x2 => (bm_kt w2 (t + 112) = 0) ∧ bm_Call bm_pg (d + 6) y_X0_readCell [bm_r (some (t + 112)), bm_r (some x2), bm_i (0 : Int)] w2 (fun r3 w3 =>
          bm_c0 (bk_X0_readRow_42 (d + 6) Φ (t + 112) (t_P B s.2) x2 (1 : Int) w3) (fun E => Φ (.inr E) w3) r3)) (fun E => Φ (.inr E) w2) r2) := by
    intro w0 r0 f0 h0 p0 e0
    have C0 := hcc.tf f0 h0
    have hT0 : sh_Tb T w0 := hTb.fr f0.1
    have g50 : bm_gi w0 (t + 4) 5 = bm_gi w (t + 4) 5 := f0.1.gi (by omega)
    have gT5 : bm_gi w0 T 5 = bm_gi w T 5 := f0.1.gi (by omega)
    refine sp_nextRow (t := t) (i := bm_gi w (t + 4) 5) hT hT0 C0.2.2.2.2.1 (fun r w1 hn => ?_)
    rw [bm_c3_v]
    obtain ⟨n1, ⟨cc, sc, n2⟩, n3, n4, n5, n6, n7, n8, n9, n10, n11⟩ := hn
    have rne : r ≠ T ∧ r ≠ t ∧ r ≠ t + 4 ∧ r ≠ t + 112 := by omega
    have hrp : rp t r := by unfold rp; omega
    have os0 : t + 125 ≤ bm_sz w0 := C0.2.2.2.2.1.1
    have gi1 : ∀ a j, a < t + 125 → ¬ (r ≤ a ∧ a ≤ r + 3) → bm_gi w1 a j = bm_gi w0 a j := fun a j x y => n2.gi (by omega) y
    have gl1 : ∀ a j, a < t + 125 → ¬ (r ≤ a ∧ a ≤ r + 3) → bm_gl w1 a j = bm_gl w0 a j := fun a j x y => n2.gl (by omega) y
    have gr1 : ∀ a j, a < t + 125 → a ≠ T + 1 → bm_gr w1 a j = bm_gr w0 a j := fun a j x y => n2.gr (by omega) y
    have hk1 : rk t w1 := by
      have hk0 := C0.2.1
      exact ⟨(n2.kt (by omega)).trans hk0.1, (gr1 _ _ (by omega) (by omega)).trans hk0.2.1, (gr1 _ _ (by omega) (by omega)).trans hk0.2.2⟩
    have h1 : rt t N f_T B s w1 := h0.same (h0.1.1.gw n2 (by omega) (by omega)) (fun a j x y => gi1 a j (by omega) (by omega)) (fun j => gl1 _ j (by omega) (by omega))
    have C1 : ci t N B s w1 := by
      refine ⟨h1, hk1, ?_, C0.2.2.2.1.gw n2 (by omega) (by omega), n3, ?_, ?_, fun i => ?_⟩
      · refine C0.2.2.1.gw n2 (by omega) (fun j hj hj2 z => by omega) (fun i => ?_)
        have oi := pg_tb_off t i
        by_cases z : pg_tb (t + 4) i = T
        · rw [z]; exact n4
        · have ne : pg_tb (t + 4) i + 7 ≤ T ∨ T + 7 ≤ pg_tb (t + 4) i := by
            have r1 := (pg_tb_rng (t + 4) i).2.2
            have r2 := (pg_tb_rng (t + 4) (bm_gi w (t + 4) 5)).2.2
            rw [← hT] at r2
            rcases r1 with x | ⟨j, x, -⟩ <;> rcases r2 with y | ⟨k, y, -⟩ <;> omega
          refine (C0.2.2.1.tb i).gw n2 (by omega) (fun j hj y => by omega) (fun j r' hj hr' => ?_)
          have := C0.2.2.2.2.1.2.1 _ j r' ⟨⟨i, rfl⟩, hj, hr'⟩
          exact ⟨by omega, by omega, by omega⟩
      · rw [gi1 _ _ (by omega) (by omega)]; exact C0.2.2.2.2.2.1
      · rw [gi1 _ _ (by omega) (by omega)]; exact C0.2.2.2.2.2.2.1
      · have := pg_fn_off t i
        rw [gi1 _ _ (by omega) (by omega)]; exact C0.2.2.2.2.2.2.2 i
    have g41 : bm_gr w1 (t + 112) 4 = some f := by rw [gr1 _ _ (by omega) (by omega), f0.1.gr]; exact hg
    have gT1 : bm_gr w1 (t + 112) 5 = some T := by rw [gr1 _ _ (by omega) (by omega), f0.1.gr]; exact hgT
    have hf1 : sh_Fn f w1 := by
      obtain ⟨i, hi⟩ := hff
      rw [hi]; exact C1.2.2.1.fn i
    have cq1 : cq t w0 w1 := fun j => gi1 _ _ (by omega) (by omega)
    have g51 : bm_gi w1 (t + 4) 5 = bm_gi w (t + 4) 5 := by rw [gi1 _ _ (by omega) (by omega), g50]
    have gT51 : bm_gi w1 T 5 = bm_gi w T 5 := by rw [gi1 _ _ (by omega) (by omega), gT5]
    -- what holds behind the new row
    have L1 : s.1 = false → bm_gi w (t + 112) 2 = 0 → rows.length < 12 → yk t B pr nm g rows r 0 [] s.2 w1 ∧ f = pg_fn (t + 4) (g : Int) := fun z c0 hlt => by
      obtain ⟨l1, l2⟩ := hl z c0
      have ee : bm_gi w (t + 4) 5 = (pr.2.length : Int) := l1.1.2.1.1
      have hT' : T = pg_tb (t + 4) (pr.2.length : Int) := by rw [hT, ee]
      have nn : bm_gi w0 T 5 = (rows.length : Int) := by rw [gT5, hT']; exact l1.2.2.2.2.2.1.1
      have h8 := n8 (by omega) (by omega)
      rw [nn, Int.toNat_natCast] at h8
      have ro0 := C0.2.2.2.2.1
      have gr0 : ∀ T' j r', rw_at t w0 T' j r' → (T' = T ∧ j = rows.length) ∨ r' + 4 ≤ r ∨ r + 4 ≤ r' := fun T' j r' at0 => by
        by_cases y : T' = T ∧ j = rows.length
        · exact Or.inl y
        · obtain ⟨⟨i, q1⟩, q2, q3⟩ := at0
          have oi := pg_tb_off t i
          rw [← q1] at oi
          have e3 : bm_gr w1 (T' + 1) j = bm_gr w0 (T' + 1) j := by
            by_cases y2 : T' = T
            · rw [y2]
              exact n9 j (by omega)
            · exact gr1 _ _ (by omega) (by omega)
          have := n10 T' j r' ⟨⟨i, q1⟩, q2, e3.trans q3⟩
          rcases this with x | x
          · exact Or.inl ⟨x.1, by omega⟩
          · exact Or.inr x
      have l0 : yh t B pr nm g rows s.2 w0 := by
        have z0 : yk t B pr nm g rows r 0 [] s.2 w0 ∨ True := Or.inr trivial
        obtain ⟨⟨a1, a2, a3⟩, a4, a5, a6, a7, a8, a9⟩ := l1
        have e := pg_tb_in (t + 4) pr.2.length a4
        refine ⟨(show yl t B pr s.2 w from ⟨a1, a2, a3⟩).tf c5 f0 rfl, a4, a5, by rw [f0.2.2.2]; exact a6, by rw [f0.1.gi (by omega)]; exact a7, a8.bk (fun j => f0.1.gi (by omega)) (fun j => by rw [f0.1.gr]) (fun i r' hi hr' => ?_), a9⟩
        have := c5.2.1 _ i r' ⟨⟨_, rfl⟩, by omega, hr'⟩
        exact fun b x y j => ⟨f0.1.gi (by omega), by rw [f0.2.2.2]⟩
      have y1 := yh_mv (w' := w1) (r := r) l0 ro0 hT' h8.2 gr0 (fun a j x y => ⟨n2.gi x (fun z => y (by omega)), n2.gl x (fun z => y (by omega))⟩) (fun a j x y _ => n2.gr x y) (fun j hj => n9 j (by omega)) (q' := s.2) rfl
      refine ⟨⟨y1, hlt, ⟨fun i hi => by simp at hi, fun i _ hi => n11.2.2.2 i hi, by simp, fun i hi => by simp at hi⟩, by rw [← hT']; exact h8.1, n11.2.1, n11.2.2.1⟩, l2⟩
    have p1 := p0.sil (s2 := s) (G' := fun _ => True) (fun z => z) cq1 (fun _ _ _ _ _ => trivial)
    have LL : s.1 = false → bm_gi w1 (t + 112) 2 = 0 → yk t B pr nm g rows r 0 [] s.2 w1 ∧ f = pg_fn (t + 4) (g : Int) := fun z c0 => by
      obtain ⟨cz, a, a1, -⟩ := p1.z0 z c0
      have e1 := e0 z cz
      refine L1 z cz ?_
      rcases Nat.lt_or_ge rows.length 12 with y | y
      · exact y
      · rw [if_pos y] at e1
        rw [e1] at a1
        cases a1
    refine ⟨hk1.1, rd_cell (d := d + 1) (c := 0) (ins := (pr.1.getD g y_f0).2.1) (l := []) h1 hk1 g41 hf1 hff n5 hrp (fun z c0 => ?_) (fun w2 h2 m2 p2 => ?_)⟩
    · obtain ⟨l1, l2⟩ := LL z c0
      refine ⟨?_, l1.2.2.1⟩
      have := (l1.1.1.1.2.2 g l1.1.2.2.1).2.1
      rw [← l2] at this
      exact this
    rw [bm_c0_v]
    have hk2 : rk t w2 := ⟨by rw [m2.kt]; exact hk1.1, by rw [m2.gr]; exact hk1.2.1, by rw [m2.gr]; exact hk1.2.2⟩
    have s2le : (1 ≤ (f_cel (t_K B) s).2 ∨ (f_cel (t_K B) s).1 = true) := by
      cases e : (f_cel (t_K B) s).1 with
      | true => exact Or.inr rfl
      | false =>
        refine Or.inl ?_
        have z := f_cel_ok e
        unfold f_cel at e ⊢
        split
        · exact Nat.le_add_left _ _
        · rename_i c30
          rw [if_neg c30] at e
          split
          · rename_i c33
            have := (f_far_wh K0 (false, (f_wh (t_K B) s).2 + 1) (f_see_N K0 (by decide) ((f_far_wh K0 s c1.2.2.2.2.1).2.1) c33)).1
            simp only at this
            omega
          · rename_i c33
            rw [if_neg c33] at e
            have := (f_x_ok (k := 2) (s := f_opt (t_K B) 29 s) e).2.2
            show 1 ≤ (f_x (t_K B) 2 (f_opt (t_K B) 29 s)).2
            rw [this]
            exact Nat.le_add_left _ _
    -- all cells
    have rest : ∀ l1 : List (Int × Int), ((f_cel (t_K B) s).1 = false → bm_gi w2 (t + 112) 2 = 0 → yi f B (pr.1.getD g y_f0).2.1 w2 ∧ ycl r (pr.1.getD g y_f0).2.1 1 l1 w2) → (∀ c' w3, rt t N f_T B (f_cls (t_K B) f_T s) w3 → q_fr (wA t r) w1 w3 → pz t B (f_cls (t_K B) f_T s) (y_ct1 (t_K B) (t_V B) (pr.1.getD g y_f0).2.1 1500 l1 1 (f_cel (t_K B) s)) (fun lc => c' = lc.2 ∧ yi f B (pr.1.getD g y_f0).2.1 w3 ∧ ycl r (pr.1.getD g y_f0).2.1 lc.2 lc.1 w3) w2 w3 → bk_X0_readRow_73 (d + 6) Φ (t + 112) (t_P B s.2) r ((c' : Nat) : Int) w3) → bk_X0_readRow_42 (d + 6) Φ (t + 112) (t_P B s.2) r (1 : Int) w2 := fun l1 hy1 hq1 => by
      have eF : f_cls (t_K B) f_T s = f_ct (t_K B) 1500 (f_cel (t_K B) s) := f_cls_s (n := 1500)
      refine rd_cells (d := d) (ins := (pr.1.getD g y_f0).2.1) hff hrp 1500 1 (f_cel (t_K B) s) w2 l1 h2 hk2 (by rw [m2.gr]; exact g41) (hf1.fr m2) (n5.fr m2) hy1 (by have := c1.1.2.2.1; omega) s2le (fun c' w3 h3 m3 p3 => ?_)
      rw [← eF] at h3 p3
      exact hq1 c' w3 h3 (m2.tr m3) p3
    have eY : y_cls (t_K B) (t_V B) (pr.1.getD g y_f0).2.1 f_T [] 0 s.2 = y_b (y_cel (t_K B) (t_V B) (pr.1.getD g y_f0).2.1 0 s.2) fun l' => y_ct1 (t_K B) (t_V B) (pr.1.getD g y_f0).2.1 1500 ([] ++ l') (0 + 1) (f_cel (t_K B) (false, s.2)) := y_cls_s (n := 1500)
    have okC : (f_cls (t_K B) f_T s).1 = false → (f_cel (t_K B) s).1 = false := fun z => by
      rw [show f_cls (t_K B) f_T s = f_ct (t_K B) 1500 (f_cel (t_K B) s) from f_cls_s (n := 1500)] at z
      exact f_ct_ok z
    have okR : (f_row (t_K B) s).1 = false → (f_cls (t_K B) f_T s).1 = false := fun z => (f_x_ok (f_noi_res _ z).1).1 ▸ rfl
    have noR := fun z => (f_noi_cls (K := t_K B) f_T s z)
    -- the end of the row
    have fin : ∀ (c' : Nat) w3, rt t N f_T B (f_cls (t_K B) f_T s) w3 → q_fr (wA t r) w1 w3 → pz t B (f_cls (t_K B) f_T s) (y_b r0 fun _ => y_cls (t_K B) (t_V B) (pr.1.getD g y_f0).2.1 f_T [] 0 s.2) (fun lc => c' = lc.2 ∧ ycl r (pr.1.getD g y_f0).2.1 lc.2 lc.1 w3) w w3 → bk_X0_readRow_73 (d + 6) Φ (t + 112) (t_P B s.2) r ((c' : Nat) : Int) w3 := by
      intro c' w3 h3 m3 P3
      have C3 : ci t N B (f_cls (t_K B) f_T s) w3 := by
        refine C1.mv m3 h3 ?_ ?_ (fun i => ?_)
        · rw [m3.gi (by unfold wA; omega)]; exact C1.2.2.2.2.2.1
        · rw [m3.gi (by unfold wA; omega)]; exact C1.2.2.2.2.2.2.1
        · have := pg_fn_off t i
          rw [m3.gi (by unfold wA; omega)]; exact C1.2.2.2.2.2.2.2 i
      have KF1 : kf t w w1 := (kf.tf f0).tr n1
      have KF3 : kf t w w3 := KF1.tr (kf.of m3 (fun a z => by unfold wA at z; unfold kA; omega))
      have ap3 : ∀ T' j r', rw_at t w3 T' j r' → (T' = T ∧ (j : Int) = bm_gi w3 T 5) ∨ r' + 4 ≤ r ∨ r + 4 ≤ r' := fun T' j r' a => by
        obtain ⟨q1, q2, q3⟩ := a
        rw [m3.gr] at q3
        have := n10 _ _ _ ⟨q1, q2, q3⟩
        rw [m3.gi (by unfold wA; omega), gT51, ← gT5]
        exact this
      have g53 : bm_gi w3 (t + 4) 5 = bm_gi w (t + 4) 5 := by rw [m3.gi (by unfold wA; omega), g51]
      cases hR : (y_b r0 fun _ => y_cls (t_K B) (t_V B) (pr.1.getD g y_f0).2.1 f_T [] 0 s.2) with
      | inl e =>
        rw [hR] at P3
        refine rd_row73 (d := d + 1) (pr := pr) (nm := nm) (g := g) (rows := rows) (l := []) (p := s.2) C3 (by rw [m3.gr]; exact gT1) (by rw [g53]; exact hT) (by rw [m3.gr]; exact g41) hff (n5.fr m3) n6 (fun x y => (n8 (by rw [m3.gi (by unfold wA; omega), gT51, ← gT5] at x; exact x) (by rw [m3.gi (by unfold wA; omega), gT51, ← gT5] at y; exact y)).2) ap3 rfl (fun z c0 => ?_) (fun w' c' k' g' x' p' => ?_)
        · obtain ⟨-, a, a1, -⟩ := P3.z0 z c0
          cases a1
        · refine hq w' c' (KF3.tr k') (by rw [g', m3.gr]; exact gT1) (by rw [g', m3.gr]; exact g41) (x'.trans g53) ((P3.stay (s2 := f_row (t_K B) s) okR (fun z => (p' z).1)).cg2 (fun z c0 => ?_))
          have z1 := f_cel_ok (okC (okR z))
          rw [e0 z1 c0] at hR
          rw [y_row_eq]
          by_cases y : 12 ≤ rows.length
          · rw [if_pos y, y_b_inl] at hR
            rw [if_pos y]
            cases hR
            rfl
          · rw [if_neg y, y_b_inr] at hR
            rw [if_neg y, hR, y_b_inl]
      | inr lc =>
        rw [hR] at P3
        refine rd_row73 (d := d + 1) (pr := pr) (nm := nm) (g := g) (rows := rows) (l := lc.1) (p := s.2) C3 (by rw [m3.gr]; exact gT1) (by rw [g53]; exact hT) (by rw [m3.gr]; exact g41) hff (n5.fr m3) n6 (fun x y => (n8 (by rw [m3.gi (by unfold wA; omega), gT51, ← gT5] at x; exact x) (by rw [m3.gi (by unfold wA; omega), gT51, ← gT5] at y; exact y)).2) ap3 rfl (fun z c0 => ?_) (fun w' c'' k' g' x' p' => ?_)
        · obtain ⟨cz, a, a1, a2, a3⟩ := P3.z0 z c0
          cases a1
          have z1 := (noR z).1
          have hlt : rows.length < 12 := by
            rcases Nat.lt_or_ge rows.length 12 with y | y
            · exact y
            · rw [e0 z1 cz, if_pos y] at hR
              cases hR
          obtain ⟨l1, l2⟩ := L1 z1 cz hlt
          have ee : bm_gi w (t + 4) 5 = (pr.2.length : Int) := by rw [← g51]; exact l1.1.1.2.1.1
          have hT' : T = pg_tb (t + 4) (pr.2.length : Int) := by rw [hT, ee]
          have nn : bm_gi w1 T 5 = (rows.length : Int) := by rw [hT']; exact l1.1.2.2.2.2.2.1.1
          have h156 : t + 125 ≤ r := (n8 (by rw [gT5, ← gT51, nn]; omega) (by rw [gT5, ← gT51, nn]; omega)).2
          have y3 := yh_mv (w' := w3) (r := r) (T := T) l1.1 n3 hT' h156 (fun T' j r' at1 => by
            have := n10 _ _ _ at1
            rw [gT5, ← gT51, nn] at this
            rcases this with x | x
            · exact Or.inl ⟨x.1, by omega⟩
            · exact Or.inr x) (fun a j x y => ⟨m3.gi (fun z => y (by unfold wA at z; omega)), m3.gl (fun z => y (by unfold wA at z; omega))⟩) (fun a j _ _ _ => by rw [m3.gr]) (fun j _ => by rw [m3.gr]) (q' := (f_cls (t_K B) f_T s).2) (noR z).2
          refine ⟨⟨y3, hlt, by rw [a2]; exact a3, by rw [m3.gr]; exact l1.2.2.2.1, ?_, ?_⟩, l2⟩
          · rw [m3.gl (by unfold wA; omega)]; exact l1.2.2.2.2.1
          · rw [m3.gi (by unfold wA; omega)]; exact l1.2.2.2.2.2
        · refine hq w' c'' (KF3.tr k') (by rw [g', m3.gr]; exact gT1) (by rw [g', m3.gr]; exact g41) (x'.trans g53) ?_
          have pf := P3.bind (s2 := f_row (t_K B) s) (k := fun lc => y_row73 (t_K B) (t_V B) (pr.1.getD g y_f0).2.1 rows s.2 lc.2 lc.1 (f_cls (t_K B) f_T s).2) (G := fun rows' => yh t B pr nm g rows' (f_row (t_K B) s).2 w') (w2 := w') okR (fun z => ⟨(p' z).1, fun a ha c0 hG => by
            cases ha
            have := (p' z).2 c0
            rw [hG.1] at this
            exact this⟩)
          refine pf.cg2 (fun z c0 => ?_)
          have z1 := f_cel_ok (okC (okR z))
          rw [e0 z1 c0] at hR
          rw [y_row_eq]
          by_cases y : 12 ≤ rows.length
          · rw [if_pos y] at hR
            cases hR
          · rw [if_neg y, y_b_inr] at hR
            rw [if_neg y, hR, y_b_inr, y_b_inr, ← f_eta z1]
    have pb := p1.bind (s2 := f_cel (t_K B) s) (k := fun _ => y_cel (t_K B) (t_V B) (pr.1.getD g y_f0).2.1 0 s.2) (G := fun l' => ycl r (pr.1.getD g y_f0).2.1 (0 + 1) ([] ++ l') w2) (w2 := w2) f_cel_ok (fun z => ⟨(p2 z).1, fun a _ c0 _ => (p2 z).2 c0⟩)
    cases hR : (y_b r0 fun _ => y_cel (t_K B) (t_V B) (pr.1.getD g y_f0).2.1 0 s.2) with
    | inl e =>
      rw [hR] at pb
      refine rest [] (fun z c0 => ?_) (fun c' w3 h3 m3 p3 => fin c' w3 h3 m3 ((pb.stay (s2 := f_cls (t_K B) f_T s) okC (fun z => (p3 z).1)).cg2 (fun z c0 => ?_)))
      · obtain ⟨-, a, a1, -⟩ := pb.z0 z c0
        cases a1
      · have z1 := f_cel_ok (okC z)
        rw [e0 z1 c0] at hR ⊢
        by_cases y : 12 ≤ rows.length
        · rw [if_pos y, y_b_inl] at hR
          rw [if_pos y, y_b_inl]
          cases hR
          rfl
        · rw [if_neg y, y_b_inr] at hR
          rw [if_neg y, y_b_inr, eY, hR, y_b_inl]
    | inr l' =>
      rw [hR] at pb
      refine rest ([] ++ l') (fun z c0 => ?_) (fun c' w3 h3 m3 p3 => fin c' w3 h3 m3 ?_)
      · obtain ⟨cz, a, a1, a2⟩ := pb.z0 z c0
        cases a1
        refine ⟨?_, a2⟩
        have z1 := f_cel_ok z
        have hlt : rows.length < 12 := by
          rcases Nat.lt_or_ge rows.length 12 with y | y
          · exact y
          · rw [e0 z1 cz, if_pos y] at hR
            cases hR
        obtain ⟨l1, l2⟩ := L1 z1 cz hlt
        have y1 := (l1.1.1.1.2.2 g l1.1.2.2.1).2.1
        rw [← l2] at y1
        refine y1.bk (fun b x y j => ?_)
        have : ¬ wA t r b := by unfold wA; omega
        exact ⟨m2.gi this, m2.gl this⟩
      · have pf := (pb.bind (s2 := f_cls (t_K B) f_T s) (k := fun l' => y_ct1 (t_K B) (t_V B) (pr.1.getD g y_f0).2.1 1500 ([] ++ l') 1 (f_cel (t_K B) s)) (G := fun lc => c' = lc.2 ∧ yi f B (pr.1.getD g y_f0).2.1 w3 ∧ ycl r (pr.1.getD g y_f0).2.1 lc.2 lc.1 w3) (w2 := w3) okC (fun z => ⟨(p3 z).1, fun a ha c0 _ => by
          cases ha
          exact (p3 z).2 c0⟩)).mo (G' := fun lc => c' = lc.2 ∧ ycl r (pr.1.getD g y_f0).2.1 lc.2 lc.1 w3) (fun a _ _ _ h => ⟨h.1, h.2.2⟩)
        refine pf.cg2 (fun z c0 => ?_)
        have z1 := f_cel_ok (okC z)
        rw [e0 z1 c0] at hR ⊢
        by_cases y : 12 ≤ rows.length
        · rw [if_pos y] at hR
          cases hR
        · rw [if_neg y, y_b_inr] at hR
          rw [if_neg y, y_b_inr, y_b_inr, eY, hR, y_b_inr, ← f_eta z1]
  refine vc_X0_readRow ?_
  simp only [bm_c0_v, bm_c1_v, bm_c2_v, bm_c3_v, bm_c4_v, bm_c5_v, bm_u_some, decide_eq_true_eq, true_and, and_true, and_self, Bool.not_eq_true, Bool.not_eq_true', decide_eq_false_iff_not, if_true, if_false, ite_true, ite_false, eq_self, c2.1, c2.2.1, c1.1.1.1, sp_startHere c1.1.1, c1.start, hgT, hTb.1]
  by_cases c12 : bm_gi w T 5 < 12
  · rw [if_pos c12]
    refine tail w (.inr ()) tf.rf c1 (pz.ok cq.rf (fun _ _ => trivial)) (fun z c0 => ?_)
    have l1 := (hl z c0).1
    have ee : bm_gi w (t + 4) 5 = (pr.2.length : Int) := l1.1.2.1.1
    have hT' : T = pg_tb (t + 4) (pr.2.length : Int) := by rw [hT, ee]
    have nn : bm_gi w T 5 = (rows.length : Int) := by rw [hT']; exact l1.2.2.2.2.2.1.1
    rw [if_neg (by omega)]
  · rw [if_neg c12]
    have tp : tf t w (cp_put w (t + 112) 4 (t_P B s.2)) := tf.rf.put
    have hk0 := c2.tf tp
    have gT0 : bm_gr (cp_put w (t + 112) 4 (t_P B s.2)) (t + 112) 5 = some T := by rw [tp.1.gr]; exact hgT
    have hTb0 : sh_Tb T (cp_put w (t + 112) 4 (t_P B s.2)) := hTb.fr tp.1
    simp only [bm_c0_v, bm_c1_v, bm_c2_v, bm_c3_v, bm_c4_v, bm_c5_v, bm_u_some, decide_eq_true_eq, true_and, and_true, and_self, Bool.not_eq_true, Bool.not_eq_true', decide_eq_false_iff_not, if_true, if_false, ite_true, ite_false, eq_self, sp_complain c2.1, hk0.1, gT0, hTb0.1]
    refine tail (cp_put w (t + 112) 4 (t_P B s.2)) (.inl (4, s.2)) tp c1.put (pz.put cq.rf (by decide)) (fun z c0 => ?_)
    have l1 := (hl z c0).1
    have ee : bm_gi w (t + 4) 5 = (pr.2.length : Int) := l1.1.2.1.1
    have hT' : T = pg_tb (t + 4) (pr.2.length : Int) := by rw [hT, ee]
    have nn : bm_gi w T 5 = (rows.length : Int) := by rw [hT']; exact l1.2.2.2.2.2.1.1
    rw [if_pos (by omega)]
end RR
