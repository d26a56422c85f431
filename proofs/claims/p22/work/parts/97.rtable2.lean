/-! ===== reading in the class: tables, from their first token on ===== -/
section RT
variable {d t N : Nat} {B : Int → Int} {s : Bool × Nat} {w : bm_W} {Φ : bm_Rt → bm_W → Prop} {pr : y_pr}
def y_tab2 (K V : Nat → Int) (pr : y_pr) (p : Nat) : (Int × Nat) ⊕ y_pr := if y_tk V pr (V (p + 1)) then .inl (3, p + 1) else
  if y_ix V (V (p + 3)) (pr.1.map (·.1)) 0 < 0 then .inl (2, p + 3) else
  y_b (y_rws K V (pr.1.getD (y_ix V (V (p + 3)) (pr.1.map (·.1)) 0).toNat y_f0).2.1 f_T [] (p + 5)) fun rows => .inr (pr.1, pr.2 ++ [(p + 1, (y_ix V (V (p + 3)) (pr.1.map (·.1)) 0).toNat, rows)])
theorem y_tab_eq {K V : Nat → Int} {p : Nat} : y_tab K V pr p = if 6 ≤ pr.2.length then .inl (4, p) else y_tab2 K V pr p := by
  unfold y_tab y_tab2
  rfl
/-- names as they are known -/
theorem yl_names {q : Nat} {v : Int} (h : yl t B pr q w) : pg_nm w (t + 4) v = y_ix (t_V B) v (pr.1.map (·.1)) 0 ∧ pg_ta w (t + 4) v 7 0 = y_ix (t_V B) v (pr.2.map (·.1)) 0 := by
  have nf1 := pg_nl_ix (w := w) (p := t + 4) (v := v) (V := t_V B) 7 0 (pr.1.map (·.1)) (by rw [List.length_map]; have := h.1.2.1; omega) (by rw [List.length_map, Nat.zero_add]; exact h.1.1) (fun j hj => by
    rw [List.length_map] at hj
    rw [q_gdm (a := y_f0) hj, Nat.zero_add]
    exact (h.1.2.2 j hj).1)
  have nt1 := pg_ta_ix (w := w) (p := t + 4) (v := v) (V := t_V B) 7 0 (pr.2.map (·.1)) (by rw [List.length_map]; have := h.2.1.2.1; omega) (by rw [List.length_map, Nat.zero_add]; exact h.2.1.1) (fun j hj => by
    rw [List.length_map] at hj
    rw [q_gdm (a := y_t0) hj, Nat.zero_add]
    exact (h.2.1.2.2 j hj).1)
  exact ⟨nf1, nt1⟩
theorem rd_table24 (hc : ci t N B s w) (hs : f_see (t_K B) f_T s 12 12) (hl : bm_gi w (t + 112) 2 = 0 → yl t B pr s.2 w ∧ pr.2.length < 6)
    (hq : ∀ w', ci t N B (f_tab (t_K B) (false, s.2 + 1)) w' → kf t w w' → pz t B (f_tab (t_K B) (false, s.2 + 1)) (y_tab2 (t_K B) (t_V B) pr s.2) (fun pr' => yl t B pr' (f_tab (t_K B) (false, s.2 + 1)).2 w') w w' → Φ (.inl none) w') : bk_X0_readTable_24 (d + 8) Φ (t + 112) w := by
  obtain ⟨c1, c2, c3, c4, c5, c6, c7, c8⟩ := hc
  have N5 := c1.1.2.2.1
  have K0 := c1.1.2.2.2
  have lN := f_see_N K0 (by decide) c1.2.2.2.2.1 hs
  refine vb_X0_readTable_24 ?_
  simp only [bm_c0_v, bm_c1_v, bm_c2_v, bm_c3_v, bm_c4_v, bm_c5_v, bm_u_some, decide_eq_true_eq, true_and, and_true, and_self, Bool.not_eq_true, Bool.not_eq_true', decide_eq_false_iff_not, if_true, if_false, ite_true, ite_false, eq_self, c2.1, c2.2.1, c1.1.1.1]
  refine rt_expect c1 (by decide) (fun w2 h2 f2 q2 => ?_)
  have e2 : f_exp (t_K B) f_T 12 s = (false, s.2 + 1) := if_pos hs
  rw [e2] at h2
  have hk2 := c2.tf f2
  have P2 : sh_Pg (t + 4) w2 := c3.fr f2.1
  have g5 : bm_gi w2 (t + 4) 5 = bm_gi w (t + 4) 5 := f2.1.gi (by omega)
  obtain ⟨T, hT⟩ : ∃ T, T = pg_tb (t + 4) (bm_gi w (t + 4) 5) := ⟨_, rfl⟩
  have offT := pg_tb_off t (bm_gi w (t + 4) 5)
  rw [← hT] at offT
  simp only [bm_c0_v, bm_c1_v, bm_c2_v, bm_c3_v, bm_c4_v, bm_c5_v, bm_u_some, decide_eq_true_eq, true_and, and_true, and_self, Bool.not_eq_true, Bool.not_eq_true', decide_eq_false_iff_not, if_true, if_false, ite_true, ite_false, eq_self, hk2.1, hk2.2.2, P2.1, sp_nextTable P2, g5, ← hT]
  obtain ⟨w3, hw3⟩ : ∃ w3, w3 = bm_si (bm_si (bm_si (bm_sq w2 T 3 0) T 4 0) T 5 0) T 6 0 := ⟨_, rfl⟩
  have F3 : q_fr (fun a => a = T) w2 w3 := by
    rw [hw3]
    exact q_fr.si (A := fun a => a = T) (q_fr.si (q_fr.si (q_fr.sq q_fr.rf rfl) rfl) rfl) rfl
  have V3 : bm_gi w3 T 5 = 0 ∧ bm_gi w3 T 6 = 0 := by
    rw [hw3]
    exact ⟨(q_gi_nk (by decide)).trans q_gi_eq, q_gi_eq⟩
  rw [← hw3]
  clear hw3
  have X4 : q_gw (fun a => False) (fun a => a = t + 112) 0 0 w3 (bm_sr w3 (t + 112) 5 (some T)) := q_gw.rf.sr (Or.inl rfl)
  have hk3 : rk t w3 := ⟨by rw [F3.kt]; exact hk2.1, by rw [F3.gr]; exact hk2.2.1, by rw [F3.gr]; exact hk2.2.2⟩
  have o3 : rw_ok t w3 := (c5.fr f2.1).fr F3
  have hk4 : rk t (bm_sr w3 (t + 112) 5 (some T)) := ⟨hk3.1, (q_gr_nk (by decide)).trans hk3.2.1, (q_gr_nk (by decide)).trans hk3.2.2⟩
  have g54 : bm_gr (bm_sr w3 (t + 112) 5 (some T)) (t + 112) 5 = some T := q_gr_eq
  have P4 : sh_Pg (t + 4) (bm_sr w3 (t + 112) 5 (some T)) := (P2.fr F3).gwR X4 o3 (fun a z => z)
  have M4 : sh_Mc (t + 113) (t + 4) (bm_sr w3 (t + 112) 5 (some T)) := ((c4.fr f2.1).fr F3).gw X4 (by have := o3.1; omega) (by omega)
  have O4 : rw_ok t (bm_sr w3 (t + 112) 5 (some T)) := o3.gw X4 (fun j hj => by omega)
  have T4 : sh_Tk t (bm_sr w3 (t + 112) 5 (some T)) := (h2.1.1.fr F3).gw X4 (by have := o3.1; omega) (by omega)
  have h4 : rt t N f_T B (false, s.2 + 1) (bm_sr w3 (t + 112) 5 (some T)) := h2.same T4 (fun a j _ _ => F3.gi (by omega)) (fun j => F3.gl (by omega))
  have gi4 : ∀ a j, bm_gi (bm_sr w3 (t + 112) 5 (some T)) a j = bm_gi w3 a j := fun _ _ => rfl
  have gl4 : ∀ a j, bm_gl (bm_sr w3 (t + 112) 5 (some T)) a j = bm_gl w3 a j := fun _ _ => rfl
  have gr4 : ∀ a j, a ≠ t + 112 → bm_gr (bm_sr w3 (t + 112) 5 (some T)) a j = bm_gr w3 a j := fun a j h => q_gr_ne h
  have K4 : kf t w (bm_sr w3 (t + 112) 5 (some T)) := ((kf.tf f2).tr (kf.of F3 (fun a z => Or.inl (by omega)))).tr kf.sr
  have kt3 : bm_kt w3 (t + 112) = 0 := hk3.1
  generalize bm_sr w3 (t + 112) 5 (some T) = w4 at X4 hk4 g54 P4 M4 O4 T4 h4 gi4 gl4 gr4 K4 ⊢
  have gi24 : ∀ a j, a ≠ T → bm_gi w4 a j = bm_gi w2 a j := fun a j h => by rw [gi4, F3.gi h]
  have gl24 : ∀ a j, a ≠ T → bm_gl w4 a j = bm_gl w2 a j := fun a j h => by rw [gl4, F3.gl h]
  have C4 : ci t N B (false, s.2 + 1) w4 := by
    refine ⟨h4, hk4, P4, M4, O4, ?_, ?_, fun i => ?_⟩
    · rw [gi24 _ _ (by omega), f2.1.gi (by omega)]; exact c6
    · rw [gi24 _ _ (by omega), g5]; exact c7
    · have := pg_fn_off t i
      rw [gi24 _ _ (by omega), f2.1.gi (by omega)]; exact c8 i
  have x4 : bm_gi w4 (t + 4) 4 = bm_gi w (t + 4) 4 := by rw [gi24 _ _ (by omega)]; exact f2.1.gi (by omega)
  have x5 : bm_gi w4 (t + 4) 5 = bm_gi w (t + 4) 5 := by rw [gi24 _ _ (by omega), g5]
  have os := c5.1
  -- what is kept stays, while only the new table changes
  have LY : ∀ (w' : bm_W) (q' : Nat), bm_gi w (t + 112) 2 = 0 → (∀ a j, ¬ (a = t ∨ a = t + 112 ∨ a = T) → bm_gi w' a j = bm_gi w4 a j ∧ bm_gl w' a j = bm_gl w4 a j) → (∀ a j, a ≠ t + 112 → bm_gr w' a j = bm_gr w4 a j) → y_I (t_K B) q' = y_I (t_K B) (s.2 + 1) → yl t B pr q' w' ∧ pr.2.length < 6 ∧ T = pg_tb (t + 4) (pr.2.length : Int) := fun w' q' c0 hg hgr hI => by
    obtain ⟨y0, y1⟩ := hl c0
    have ee : bm_gi w (t + 4) 5 = (pr.2.length : Int) := y0.2.1.1
    have hT' : T = pg_tb (t + 4) (pr.2.length : Int) := by rw [hT, ee]
    have e := pg_tb_in (t + 4) pr.2.length y1
    rw [← hT'] at e
    have yb := y0.tf c5 f2 (y_I_no (K := t_K B) (q := s.2) (by have := hs.2.2; omega))
    have g' : ∀ a j, ¬ (a = t ∨ a = t + 112 ∨ a = T) → bm_gi w' a j = bm_gi w2 a j ∧ bm_gl w' a j = bm_gl w2 a j := fun a j h => ⟨(hg a j h).1.trans (gi24 a j (by omega)), (hg a j h).2.trans (gl24 a j (by omega))⟩
    refine ⟨⟨yb.1.bk (g' _ _ (by omega)).1 (fun x hx a u v j => ?_), yb.2.1.mvT (T := T) (r := T + 2) (c5.fr f2.1) hT' (fun k hk => ?_) (g' _ _ (by omega)).1 (Or.inl rfl) (fun T' j r' at1 _ => ?_) (fun a j _ h => g' a j (by omega)) (fun a j _ _ h => by rw [hgr a j h, gr4 a j h, F3.gr]), by rw [(g' _ _ (by omega)).1, hI]; exact yb.2.2⟩, y1, hT'⟩
    · have := pg_fn_off t (x : Int)
      exact g' _ _ (by omega)
    · rw [pg_tb_in (t + 4) k (by omega), e]
      omega
    · have := (c5.fr f2.1).2.1 _ _ _ at1
      exact Or.inr (by omega)
  have cz4 : cq t w w4 := fun j => by rw [gi24 _ _ (by omega)]; exact q2 j
  simp only [bm_c0_v, bm_c1_v, bm_c2_v, bm_c3_v, bm_c4_v, bm_c5_v, bm_u_some, decide_eq_true_eq, true_and, and_true, and_self, Bool.not_eq_true, Bool.not_eq_true', decide_eq_false_iff_not, if_true, if_false, ite_true, ite_false, eq_self, kt3, hk4.1, g54]
  refine rd_itemName (d := d + 4) h4 hk4 P4 (by rw [x4]; exact c6.2) (by rw [x5]; exact c7.2) (fun w5 h5 f5 p5 => ?_)
  have hk5 := hk4.tf f5
  have tb5 : sh_Tb T w5 := by rw [hT]; exact (P4.fr f5.1).tb _
  have X6 : q_fr (fun a => a = T) w5 (bm_sq w5 T 3 (t_V B (s.2 + 1))) := q_fr.rf.sq rfl
  have hk6 : rk t (bm_sq w5 T 3 (t_V B (s.2 + 1))) := hk5
  have h6 : rt t N f_T B (f_x (t_K B) 3 (false, s.2 + 1)) (bm_sq w5 T 3 (t_V B (s.2 + 1))) := h5.same h5.1.1 (fun _ _ _ _ => rfl) (fun j => q_gl_ne (by omega))
  have gn6 : bm_gl (bm_sq w5 T 3 (t_V B (s.2 + 1))) T 3 = t_V B (s.2 + 1) := q_gl_eq
  simp only [bm_c0_v, bm_c1_v, bm_c2_v, bm_c3_v, bm_c4_v, bm_c5_v, bm_u_some, decide_eq_true_eq, true_and, and_true, and_self, Bool.not_eq_true, Bool.not_eq_true', decide_eq_false_iff_not, if_true, if_false, ite_true, ite_false, eq_self, tb5.1, hk6.1, hk6.2.1, h6.1.1.1]
  have P6 : sh_Pg (t + 4) (bm_sq w5 T 3 (t_V B (s.2 + 1))) := (P4.fr f5.1).fr X6
  have gi6 : ∀ a j, bm_gi (bm_sq w5 T 3 (t_V B (s.2 + 1))) a j = bm_gi w5 a j := fun _ _ => rfl
  generalize bm_sq w5 T 3 (t_V B (s.2 + 1)) = w6 at X6 hk6 h6 gn6 P6 gi6 ⊢
  refine rt_expect h6 (by decide) (fun w7 h7 f7 q7 => ?_)
  have hk7 := hk6.tf f7
  have P7 : sh_Pg (t + 4) w7 := P6.fr f7.1
  have F47 : q_fr (fun a => a = t ∨ a = t + 112 ∨ a = T) w4 w7 := ((f5.1.mo (fun a z => by omega)).tr (X6.mo (fun a z => by omega))).tr (f7.1.mo (fun a z => by omega))
  have n47 : bm_gi w7 (t + 4) 4 = bm_gi w (t + 4) 4 := by rw [F47.gi (by omega)]; exact x4
  have g57 : bm_gr w7 (t + 112) 5 = some T := by rw [F47.gr]; exact g54
  have tb7 : sh_Tb T w7 := by rw [hT]; exact P7.tb _
  obtain ⟨s7, hs7⟩ : ∃ s7, s7 = f_x (t_K B) 13 (f_x (t_K B) 3 (false, s.2 + 1)) := ⟨_, rfl⟩
  have h7 : rt t N f_T B s7 w7 := by rw [hs7]; exact h7
  simp only [bm_c0_v, bm_c1_v, bm_c2_v, bm_c3_v, bm_c4_v, bm_c5_v, bm_u_some, decide_eq_true_eq, true_and, and_true, and_self, Bool.not_eq_true, Bool.not_eq_true', decide_eq_false_iff_not, if_true, if_false, ite_true, ite_false, eq_self, hk7.1, hk7.2.1, hk7.2.2, g57, h7.1.1.1, P7.1, tb7.1, sp_startHere h7.1.1, h7.start, sp_valueHere h7.1.1, h7.value, sp_funNamed P7 (by rw [n47]; exact c6.2)]
  have X8 : q_fr (fun a => a = T) w7 (bm_si w7 T 4 (pg_nm w7 (t + 4) (t_V B s7.2))) := q_fr.rf.si rfl
  have hk8 : rk t (bm_si w7 T 4 (pg_nm w7 (t + 4) (t_V B s7.2))) := hk7
  have h8 : rt t N f_T B s7 (bm_si w7 T 4 (pg_nm w7 (t + 4) (t_V B s7.2))) := h7.same h7.1.1 (fun a j _ _ => q_gi_ne (by omega)) (fun _ => rfl)
  have g58 : bm_gr (bm_si w7 T 4 (pg_nm w7 (t + 4) (t_V B s7.2))) (t + 112) 5 = some T := g57
  have gv8 : bm_gi (bm_si w7 T 4 (pg_nm w7 (t + 4) (t_V B s7.2))) T 4 = pg_nm w7 (t + 4) (t_V B s7.2) := q_gi_eq
  have gk8 : ∀ j, j ≠ 4 → bm_gi (bm_si w7 T 4 (pg_nm w7 (t + 4) (t_V B s7.2))) T j = bm_gi w7 T j := fun j h => q_gi_nk h
  have gl8 : ∀ a j, bm_gl (bm_si w7 T 4 (pg_nm w7 (t + 4) (t_V B s7.2))) a j = bm_gl w7 a j := fun _ _ => rfl
  simp only [bm_c0_v, bm_c1_v, bm_c2_v, bm_c3_v, bm_c4_v, bm_c5_v, bm_u_some, decide_eq_true_eq, true_and, and_true, and_self, Bool.not_eq_true, Bool.not_eq_true', decide_eq_false_iff_not, if_true, if_false, ite_true, ite_false, eq_self, hk8.1, hk8.2.1, h8.1.1.1]
  obtain ⟨g, hg⟩ : ∃ g, g = pg_nm w7 (t + 4) (t_V B s7.2) := ⟨_, rfl⟩
  rw [← hg] at X8 hk8 h8 g58 gv8 gk8 gl8 ⊢
  generalize bm_si w7 T 4 g = w8 at X8 hk8 h8 g58 gv8 gk8 gl8 ⊢
  refine rt_expect h8 (by decide) (fun w9 h9 f9 q9 => ?_)
  have hk9 := hk8.tf f9
  have P9 : sh_Pg (t + 4) w9 := (P7.fr X8).fr f9.1
  have g59 : bm_gr w9 (t + 112) 5 = some T := by rw [f9.1.gr]; exact g58
  have tb9 : sh_Tb T w9 := by rw [hT]; exact P9.tb _
  have gv9 : bm_gi w9 T 4 = g := by rw [f9.1.gi (by omega)]; exact gv8
  have F49 : q_fr (fun a => a = t ∨ a = t + 112 ∨ a = T) w4 w9 := (F47.tr (X8.mo (fun a z => by omega))).tr (f9.1.mo (fun a z => by omega))
  have c79 : cq t w7 w9 := fun j => (q9 j).trans (X8.gi (by omega))
  have c57 : cq t w5 w7 := fun j => (q7 j).trans (X6.gi (by omega))
  -- tokens so far
  have hd7 : ∀ z : s7.1 = false, s7 = (false, s.2 + 3) ∧ y_I (t_K B) (s.2 + 3) = y_I (t_K B) (s.2 + 1) := fun z => by
    rw [hs7] at z ⊢
    have a := f_x_ok z
    have b := f_x_ok (k := 3) (s := (false, s.2 + 1)) (by rw [a.1])
    have e : _ ∧ y_I (t_K B) (f_x (t_K B) 13 (f_x (t_K B) 3 (false, s.2 + 1))).2 = y_I (t_K B) (s.2 + 1) := ((f_noi_x (K := t_K B) (k := 3) (by decide)).co (f_noi_x (k := 13) (by decide))) (false, s.2 + 1) z
    rw [b.2.2] at a e ⊢
    simp only at a e
    rw [a.2.2] at e ⊢
    exact ⟨rfl, e.2⟩
  have p7 : pz t B s7 (if y_tk (t_V B) pr (t_V B (s.2 + 1)) then .inl (3, s.2 + 1) else .inr ()) (fun _ => True) w w7 := by
    have a := (p5.sil (s2 := s7) (G' := fun _ => True) (fun z => by rw [hs7] at z; exact (f_x_ok z).1 ▸ rfl) c57 (fun _ _ _ _ _ => trivial)).pre (w := w) cz4
    refine a.cg2 (fun z c0 => ?_)
    obtain ⟨y0, -⟩ := LY w4 (s.2 + 1) c0 (fun _ _ _ => ⟨rfl, rfl⟩) (fun _ _ _ => rfl) rfl
    obtain ⟨e1, e2⟩ := yl_names (v := t_V B (s.2 + 1)) y0
    simp only [e1, e2]
    by_cases k1 : y_tk (t_V B) pr (t_V B (s.2 + 1))
    · rw [if_pos k1, if_pos (Or.symm k1)]
    · rw [if_neg k1, if_neg (fun z => k1 (Or.symm z))]
  have hgl : s7.1 = false → bm_gi w (t + 112) 2 = 0 → g = y_ix (t_V B) (t_V B (s.2 + 3)) (pr.1.map (·.1)) 0 := fun z c0 => by
    obtain ⟨z1, z2⟩ := hd7 z
    obtain ⟨y0, -⟩ := LY w7 (s.2 + 3) c0 (fun a j h => ⟨F47.gi h, F47.gl h⟩) (fun a j _ => by rw [F47.gr]) z2
    rw [hg, (yl_names y0).1, z1]
  -- behind the function's name
  have tail : ∀ (w10 : bm_W) (r1 : (Int × Nat) ⊕ Unit), tf t w9 w10 → rt t N f_T B (f_x (t_K B) 3 s7) w10 → pz t B (f_x (t_K B) 3 s7) (y_b (if y_tk (t_V B) pr (t_V B (s.2 + 1)) then .inl (3, s.2 + 1) else .inr ()) fun _ => r1) (fun _ => True) w w10 → (s7.1 = false → r1 = if g < 0 then .inl (2, s.2 + 3) else .inr ()) →
      ∀ w11, (∃ u, w11 = bm_sr w10 (t + 112) 4 u ∧ u = some (pg_fn (t + 4) g)) → bm_Call bm_pg (d + 8) y_X9_expect [bm_r (some t), bm_i 20] w11 (fun r10 w10 =>
                        bm_c1 (fun x10 => (bm_kt w10 (t + 112) = 0) ∧ bm_Call bm_pg (d + 8) y_X0_readRow [bm_r (some (t + 112))] w10 (fun r11 w11 =>
                          bm_c0 (bk_X0_readTable_154 (d + 8) Φ (t + 112) (1 : Int) w11) (fun E => Φ (.inr E) w11) r11)) (fun E => Φ (.inr E) w10) r10) := by
    rintro w10 r1 f10 h10 p10 e10 w11 ⟨u, rfl, rfl⟩
    have F410 : q_fr (fun a => a = t ∨ a = t + 112 ∨ a = T) w4 w10 := F49.tr (f10.1.mo (fun a z => by omega))
    have hk10 := hk9.tf f10
    have P10 : sh_Pg (t + 4) w10 := P9.fr f10.1
    have o10 : rw_ok t w10 := O4.fr F410
    have X11 : q_gw (fun a => False) (fun a => a = t + 112) 0 0 w10 (bm_sr w10 (t + 112) 4 (some (pg_fn (t + 4) g))) := q_gw.rf.sr (Or.inl rfl)
    have C10 : ci t N B (f_x (t_K B) 3 s7) w10 := by
      refine C4.mv F410 h10 ?_ ?_ (fun i => ?_)
      · rw [F410.gi (by omega)]; exact C4.2.2.2.2.2.1
      · rw [F410.gi (by omega)]; exact C4.2.2.2.2.2.2.1
      · have := pg_fn_off t i
        rw [F410.gi (by omega)]; exact C4.2.2.2.2.2.2.2 i
    have C11 : ci t N B (f_x (t_K B) 3 s7) (bm_sr w10 (t + 112) 4 (some (pg_fn (t + 4) g))) := by
      have os10 := o10.1
      refine ⟨h10.same (h10.1.1.gw X11 (by omega) (by omega)) (fun _ _ _ _ => rfl) (fun _ => rfl), ⟨hk10.1, (q_gr_nk (by decide)).trans hk10.2.1, (q_gr_nk (by decide)).trans hk10.2.2⟩, P10.gwR X11 o10 (fun a z => z), C10.2.2.2.1.gw X11 (by omega) (by omega), o10.gw X11 (fun j hj => by omega), C10.2.2.2.2.2.1, C10.2.2.2.2.2.2.1, C10.2.2.2.2.2.2.2⟩
    have g411 : bm_gr (bm_sr w10 (t + 112) 4 (some (pg_fn (t + 4) g))) (t + 112) 4 = some (pg_fn (t + 4) g) := q_gr_eq
    have g511 : bm_gr (bm_sr w10 (t + 112) 4 (some (pg_fn (t + 4) g))) (t + 112) 5 = some T := by rw [q_gr_nk (by decide), f10.1.gr]; exact g59
    have gi11 : ∀ a j, bm_gi (bm_sr w10 (t + 112) 4 (some (pg_fn (t + 4) g))) a j = bm_gi w10 a j := fun _ _ => rfl
    have gl11 : ∀ a j, bm_gl (bm_sr w10 (t + 112) 4 (some (pg_fn (t + 4) g))) a j = bm_gl w10 a j := fun _ _ => rfl
    have gr11 : ∀ a j, a ≠ t + 112 → bm_gr (bm_sr w10 (t + 112) 4 (some (pg_fn (t + 4) g))) a j = bm_gr w10 a j := fun a j h => q_gr_ne h
    have K11 : kf t w10 (bm_sr w10 (t + 112) 4 (some (pg_fn (t + 4) g))) := kf.sr
    generalize bm_sr w10 (t + 112) 4 (some (pg_fn (t + 4) g)) = w11 at X11 C11 g411 g511 gi11 gl11 gr11 K11 ⊢
    have K411 : kf t w4 w11 := (kf.of F410 (fun a z => Or.inl (by omega))).tr K11
    refine rt_expect C11.1 (by decide) (fun w12 h12 f12 q12 => ?_)
    have C12 := C11.tf f12 h12
    have K12 : kf t w w12 := (K4.tr K411).tr (kf.tf f12)
    have g412 : bm_gr w12 (t + 112) 4 = some (pg_fn (t + 4) g) := by rw [f12.1.gr]; exact g411
    have g512 : bm_gr w12 (t + 112) 5 = some T := by rw [f12.1.gr]; exact g511
    have x512 : bm_gi w12 (t + 4) 5 = bm_gi w (t + 4) 5 := by rw [f12.1.gi (by omega), gi11, F410.gi (by omega)]; exact x5
    obtain ⟨s12, hs12⟩ : ∃ s12, s12 = f_x (t_K B) 20 (f_x (t_K B) 3 s7) := ⟨_, rfl⟩
    have C12 : ci t N B s12 w12 := by rw [hs12]; exact C12
    have ok12 : ∀ z : s12.1 = false, s7.1 = false ∧ (f_x (t_K B) 3 s7).1 = false ∧ s12 = (false, s.2 + 5) ∧ y_I (t_K B) (s.2 + 5) = y_I (t_K B) (s.2 + 1) := fun z => by
      rw [hs12] at z ⊢
      have a := f_x_ok z
      have a1 : (f_x (t_K B) 3 s7).1 = false := by rw [a.1]
      have b := f_x_ok a1
      have b1 : s7.1 = false := by rw [b.1]
      have hd := hd7 b1
      have e : _ ∧ y_I (t_K B) (f_x (t_K B) 20 (f_x (t_K B) 3 s7)).2 = y_I (t_K B) s7.2 := ((f_noi_x (K := t_K B) (k := 3) (by decide)).co (f_noi_x (k := 20) (by decide))) s7 z
      refine ⟨b1, a1, ?_⟩
      rw [b.2.2] at a e ⊢
      simp only at a e
      rw [a.2.2] at e ⊢
      rw [hd.1] at e ⊢
      exact ⟨rfl, e.2.trans hd.2⟩
    have c1012 : cq t w10 w12 := fun j => (q12 j).trans (gi11 _ _)
    have p12 := p10.sil (s2 := s12) (G' := fun _ => True) (fun z => (ok12 z).2.1) c1012 (fun _ _ _ _ _ => trivial)
    -- the table on the way
    have L12 : s12.1 = false → bm_gi w (t + 112) 2 = 0 → 0 ≤ g → yh t B pr (s.2 + 1) g.toNat [] s12.2 w12 ∧ pg_fn (t + 4) g = pg_fn (t + 4) (g.toNat : Int) := fun z c0 g0 => by
      obtain ⟨z1, z2, z3, z4⟩ := ok12 z
      have F412 : ∀ a j, ¬ (a = t ∨ a = t + 112 ∨ a = T) → bm_gi w12 a j = bm_gi w4 a j ∧ bm_gl w12 a j = bm_gl w4 a j := fun a j h => ⟨by rw [f12.1.gi (by omega), gi11, F410.gi h], by rw [f12.2.2.2, gl11, F410.gl h]⟩
      obtain ⟨y0, y1, y2⟩ := LY w12 s12.2 c0 F412 (fun a j h => by rw [f12.1.gr, gr11 a j h, F410.gr]) (by rw [z3]; exact z4)
      have gx := hgl z1 c0
      have rg := y_ix_rng (V := t_V B) (v := t_V B (s.2 + 3)) (pr.1.map (·.1)) 0 (Int.le_refl _)
      rw [← gx, List.length_map] at rg
      have T12 : ∀ j, j ≠ 4 → bm_gi w12 T j = bm_gi w4 T j := fun j hj => by
        rw [f12.1.gi (by omega), gi11, f10.1.gi (by omega), f9.1.gi (by omega), gk8 j hj, f7.1.gi (by omega), gi6, f5.1.gi (by omega)]
      refine ⟨⟨y0, y1, by omega, ?_, ?_, ⟨?_, by simp, ?_, by simp [y_ct], by simp [y_ct], fun i hi => by simp at hi⟩, by simp [y_ct]⟩, by rw [show (g.toNat : Int) = g by omega]⟩
      · rw [← y2, f12.2.2.2, gl11, f10.2.2.2, f9.2.2.2, gl8, f7.2.2.2]; exact gn6
      · rw [← y2, f12.1.gi (by omega), gi11, f10.1.gi (by omega), gv9]; omega
      · rw [← y2, T12 5 (by decide), gi4]; exact V3.1
      · rw [← y2, T12 6 (by decide), gi4]; exact V3.2
    have LL : s12.1 = false → bm_gi w12 (t + 112) 2 = 0 → yh t B pr (s.2 + 1) g.toNat [] s12.2 w12 ∧ pg_fn (t + 4) g = pg_fn (t + 4) (g.toNat : Int) := fun z c0 => by
      obtain ⟨cz, a, a1, -⟩ := p12.z0 z c0
      refine L12 z cz ?_
      have e1 := e10 (ok12 z).1
      by_cases k1 : y_tk (t_V B) pr (t_V B (s.2 + 1))
      · rw [if_pos k1, y_b_inl] at a1
        cases a1
      · rw [if_neg k1, y_b_inr, e1] at a1
        by_cases g0 : g < 0
        · rw [if_pos g0] at a1
          cases a1
        · omega
    obtain ⟨R12, hR12⟩ : ∃ R12, R12 = y_b (if y_tk (t_V B) pr (t_V B (s.2 + 1)) then (.inl (3, s.2 + 1) : (Int × Nat) ⊕ Unit) else .inr ()) fun _ => r1 := ⟨_, rfl⟩
    rw [← hR12] at p12
    have l12N : s12.2 ≤ N := C12.1.2.2.2.2.1
    have eF : f_rws (t_K B) f_T s12 = f_rt (t_K B) 1500 (f_row (t_K B) s12) := f_rws_s (n := 1500)
    have eY : ∀ q, y_rws (t_K B) (t_V B) (pr.1.getD g.toNat y_f0).2.1 f_T [] q = y_b (y_row (t_K B) (t_V B) (pr.1.getD g.toNat y_f0).2.1 [] q) fun rows' => y_rt (t_K B) (t_V B) (pr.1.getD g.toNat y_f0).2.1 1500 rows' (f_row (t_K B) (false, q)) := fun q => y_rws_s (n := 1500)
    have eT : f_tab (t_K B) (false, s.2 + 1) = f_x (t_K B) 19 (f_rws (t_K B) f_T s12) := by rw [hs12, hs7]; rfl
    have okW : (f_rws (t_K B) f_T s12).1 = false → (f_row (t_K B) s12).1 = false := fun z => by rw [eF] at z; exact f_rt_ok z
    have okX : (f_x (t_K B) 19 (f_rws (t_K B) f_T s12)).1 = false → (f_rws (t_K B) f_T s12).1 = false := fun z => (f_x_ok z).1 ▸ rfl
    have okr : (f_row (t_K B) s12).1 = false → s12.1 = false := fun z => f_far.ok (f_far_row (N := N) K0) l12N z
    have fin : ∀ w14, ci t N B (f_rws (t_K B) f_T s12) w14 → kf t w w14 → bm_gi w14 (t + 4) 5 = bm_gi w (t + 4) 5 → pz t B (f_rws (t_K B) f_T s12) (y_b R12 fun _ => y_rws (t_K B) (t_V B) (pr.1.getD g.toNat y_f0).2.1 f_T [] s12.2) (fun rows => yh t B pr (s.2 + 1) g.toNat rows (f_rws (t_K B) f_T s12).2 w14) w w14 →
        ∀ w6, rt t N f_T B (f_x (t_K B) 19 (f_rws (t_K B) f_T s12)) w6 → tf t w14 w6 → cq t w14 w6 → (bm_kt w6 (t + 112) = 0 ∧ bm_gr w6 (t + 112) 1 = some (bm_u (bm_gr w6 (t + 112) 1))) ∧ (bm_kt w6 (bm_u (bm_gr w6 (t + 112) 1)) = 3) ∧ bm_Call bm_pg (d + 8) y_X3_keepTable [bm_r (some (bm_u (bm_gr w6 (t + 112) 1)))] w6 (fun r2 w2 => bm_c0 (Φ (.inl none) w2) (fun E => Φ (.inr E) w2) r2) := by
      intro w14 C14 K14 x14 P14 w6 h6 f6 q6
      have C6 := C14.tf f6 h6
      have hk6 := C6.2.1
      have P6 := C6.2.2.1
      simp only [bm_c0_v, bm_c1_v, bm_c2_v, bm_c3_v, bm_c4_v, bm_c5_v, bm_u_some, decide_eq_true_eq, true_and, and_true, and_self, Bool.not_eq_true, Bool.not_eq_true', decide_eq_false_iff_not, if_true, if_false, ite_true, ite_false, eq_self, hk6.1, hk6.2.2, P6.1, sp_keepTable P6]
      have n6 := C6.2.2.2.2.2.2.1
      have e6 : bm_gi w6 (t + 4) 5 = bm_gi w14 (t + 4) 5 := f6.1.gi (by omega)
      have xf : q_fr (fun a => a = t + 4) w6 (if 6 ≤ bm_gi w6 (t + 4) 5 then w6 else bm_si w6 (t + 4) 5 (bm_w (bm_gi w6 (t + 4) 5 + 1))) := by
        split
        · exact q_fr.rf
        · exact q_fr.rf.si rfl
      refine hq _ ?_ ((K14.tr (kf.tf f6)).tr (kf.of xf (fun a z => Or.inl (by omega)))) ?_
      · rw [eT]
        refine C6.mv xf ?_ ?_ ?_ (fun i => ?_)
        · refine h6.same (h6.1.1.fr xf) (fun a j _ _ => xf.gi (by omega)) (fun j => xf.gl (by omega))
        · split
          · exact C6.2.2.2.2.2.1
          · rw [q_gi_nk (by decide)]; exact C6.2.2.2.2.2.1
        · split
          · exact n6
          · rw [q_gi_eq, q_wI ⟨by omega, by omega⟩]; omega
        · have := pg_fn_r (t + 4) i
          rw [xf.gi (by omega)]; exact C6.2.2.2.2.2.2.2 i
      · rw [eT]
        have c6' : cq t w14 (if 6 ≤ bm_gi w6 (t + 4) 5 then w6 else bm_si w6 (t + 4) 5 (bm_w (bm_gi w6 (t + 4) 5 + 1))) := fun j => (xf.gi (by omega)).trans (q6 j)
        have pf := P14.bind (s2 := f_x (t_K B) 19 (f_rws (t_K B) f_T s12)) (k := fun rows => .inr (pr.1, pr.2 ++ [(s.2 + 1, g.toNat, rows)])) (G := fun pr' => yl t B pr' (f_x (t_K B) 19 (f_rws (t_K B) f_T s12)).2 (if 6 ≤ bm_gi w6 (t + 4) 5 then w6 else bm_si w6 (t + 4) 5 (bm_w (bm_gi w6 (t + 4) 5 + 1)))) (w2 := (if 6 ≤ bm_gi w6 (t + 4) 5 then w6 else bm_si w6 (t + 4) 5 (bm_w (bm_gi w6 (t + 4) 5 + 1)))) okX (fun z => ⟨c6'.st, fun a ha c0 hG => ⟨(c6' 2).trans c0, ?_⟩⟩)
        · refine pf.cg2 (fun z c0 => ?_)
          obtain ⟨z1, z2, z3, z4⟩ := ok12 (okr (okW (okX z)))
          have gx := hgl z1 c0
          have e1 := e10 z1
          unfold y_tab2
          rw [hR12, z3, ← gx]
          by_cases k1 : y_tk (t_V B) pr (t_V B (s.2 + 1))
          · rw [if_pos k1, if_pos k1, y_b_inl, y_b_inl, y_b_inl]
          · rw [if_neg k1, if_neg k1, y_b_inr, e1]
            by_cases g0 : g < 0
            · rw [if_pos g0, if_pos g0, y_b_inl, y_b_inl]
            · rw [if_neg g0, if_neg g0, y_b_inr]
        · have hI := (f_noi_x (K := t_K B) (k := 19) (by decide) _ z).2
          have y5 := yl_keepT hG C14.2.2.2.2.1 f6 hI
          have e7 : bm_gi w6 (t + 4) 5 = (pr.2.length : Int) := e6.trans hG.1.2.1.1
          have := hG.2.1
          rw [if_neg (by omega), e7, q_wI ⟨by omega, by omega⟩]
          exact y5
    rw [bm_c1_v]
    refine ⟨C12.2.1.1, rd_row (d := d + 1) (pr := pr) (nm := s.2 + 1) (g := g.toNat) (rows := []) C12 g512 (by rw [x512]; exact hT) g412 ⟨g, rfl⟩ LL (fun w13 C13 k13 gT13 g413 x13 p13 => ?_)⟩
    rw [bm_c0_v]
    have P13 := p12.bind (s2 := f_row (t_K B) s12) (k := fun _ => y_row (t_K B) (t_V B) (pr.1.getD g.toNat y_f0).2.1 [] s12.2) (G := fun rows' => yh t B pr (s.2 + 1) g.toNat rows' (f_row (t_K B) s12).2 w13) (w2 := w13) okr (fun z => ⟨(p13 z).1, fun a _ c0 _ => (p13 z).2 c0⟩)
    have x13' : bm_gi w13 (t + 4) 5 = bm_gi w (t + 4) 5 := x13.trans x512
    have le13 : (1 ≤ (f_row (t_K B) s12).2 ∨ (f_row (t_K B) s12).1 = true) := by
      cases e : (f_row (t_K B) s12).1 with
      | true => exact Or.inr rfl
      | false =>
        have rng := (f_far_row K0 s12 l12N).1
        rw [(ok12 (okr e)).2.2.1] at rng ⊢
        exact Or.inl (by simp only at rng; omega)
    have hGfn : s12.1 = false → bm_gi w (t + 112) 2 = 0 → 0 ≤ g → pg_fn (t + 4) g = pg_fn (t + 4) (g.toNat : Int) := fun z c0 g0 => (L12 z c0 g0).2
    cases hR : (y_b R12 fun _ => y_row (t_K B) (t_V B) (pr.1.getD g.toNat y_f0).2.1 [] s12.2) with
    | inl e =>
      rw [hR] at P13
      refine rd_rows (d := d) (pr := pr) (nm := s.2 + 1) (g := g.toNat) ⟨g, rfl⟩ 1500 1 (f_row (t_K B) s12) w13 [] C13 gT13 (by rw [x13']; exact hT) g413 (fun z c0 => ?_) (by omega) (Int.le_refl _) (by rcases le13 with y | y; exact Or.inl (by omega); exact Or.inr y) ?_
      · obtain ⟨-, a, a1, -⟩ := P13.z0 z c0
        cases a1
      · intro w14 C14 K14 gT14 x14 p14
        rw [← eF] at C14 p14 ⊢
        refine fin w14 C14 ((K12.tr k13).tr K14) (x14.trans x13') ((P13.stay (s2 := f_rws (t_K B) f_T s12) okW (fun z => (p14 z).1)).cg2 (fun z c0 => ?_))
        cases hRx : R12 with
        | inl e' => rw [hRx, y_b_inl] at hR; cases hR; rfl
        | inr u =>
          rw [hRx, y_b_inr] at hR
          rw [y_b_inr, eY, hR, y_b_inl]
    | inr rows13 =>
      rw [hR] at P13
      refine rd_rows (d := d) (pr := pr) (nm := s.2 + 1) (g := g.toNat) ⟨g, rfl⟩ 1500 1 (f_row (t_K B) s12) w13 rows13 C13 gT13 (by rw [x13']; exact hT) g413 (fun z c0 => ?_) (by omega) (Int.le_refl _) (by rcases le13 with y | y; exact Or.inl (by omega); exact Or.inr y) ?_
      · obtain ⟨cz, a, a1, a2⟩ := P13.z0 z c0
        cases a1
        have c12 : bm_gi w12 (t + 112) 2 = 0 := (p13.z0 z c0).1
        exact ⟨a2, (LL (okr z) c12).2⟩
      · intro w14 C14 K14 gT14 x14 p14
        rw [← eF] at C14 p14 ⊢
        have pf := P13.bind (s2 := f_rws (t_K B) f_T s12) (k := fun rows' => y_rt (t_K B) (t_V B) (pr.1.getD g.toNat y_f0).2.1 1500 rows' (f_row (t_K B) s12)) (G := fun rows => yh t B pr (s.2 + 1) g.toNat rows (f_rws (t_K B) f_T s12).2 w14) (w2 := w14) okW (fun z => ⟨(p14 z).1, fun a ha c0 _ => by
          cases ha
          exact (p14 z).2 c0⟩)
        refine fin w14 C14 ((K12.tr k13).tr K14) (x14.trans x13') (pf.cg2 (fun z c0 => ?_))
        cases hRx : R12 with
        | inl e' => rw [hRx, y_b_inl] at hR; cases hR
        | inr u =>
          rw [hRx, y_b_inr] at hR
          rw [y_b_inr, y_b_inr, eY, hR, y_b_inr, ← f_eta (okr (okW z))]
  simp only [bm_c0_v, bm_c1_v, bm_c2_v, bm_c3_v, bm_c4_v, bm_c5_v, bm_u_some, decide_eq_true_eq, true_and, and_true, and_self, Bool.not_eq_true, Bool.not_eq_true', decide_eq_false_iff_not, if_true, if_false, ite_true, ite_false, eq_self, hk9.1, g59, tb9.1, gv9]
  by_cases g0 : 0 ≤ g
  · rw [if_pos g0]
    have hk11 : rk t (bm_sr w9 (t + 112) 4 (some (pg_fn (t + 4) g))) := ⟨hk9.1, (q_gr_nk (by decide)).trans hk9.2.1, (q_gr_nk (by decide)).trans hk9.2.2⟩
    simp only [bm_c0_v, bm_c1_v, bm_c2_v, bm_c3_v, bm_c4_v, bm_c5_v, bm_u_some, decide_eq_true_eq, true_and, and_true, and_self, Bool.not_eq_true, Bool.not_eq_true', decide_eq_false_iff_not, if_true, if_false, ite_true, ite_false, eq_self, hk9.1, hk9.2.2, g59, tb9.1, gv9, P9.1, sp_funAt P9, hk11.1, hk11.2.1]
    refine ⟨h9.1.1.1, ?_⟩
    refine tail w9 (.inr ()) tf.rf h9 ((p7.sil (s2 := f_x (t_K B) 3 s7) (G' := fun _ => True) (fun z => (f_x_ok z).1 ▸ rfl) c79 (fun _ _ _ _ _ => trivial)).cg (fun z => ?_)) (fun _ => by rw [if_neg (by omega)]) _ ⟨_, rfl, rfl⟩
    by_cases k1 : y_tk (t_V B) pr (t_V B (s.2 + 1))
    · rw [if_pos k1, y_b_inl]
    · rw [if_neg k1, y_b_inr]
  · rw [if_neg g0]
    have tp : tf t w9 (cp_put w9 (t + 112) 2 (t_P B s7.2)) := tf.rf.put
    have hk10 := hk9.tf tp
    have P10 : sh_Pg (t + 4) (cp_put w9 (t + 112) 2 (t_P B s7.2)) := P9.fr tp.1
    have g510 : bm_gr (cp_put w9 (t + 112) 2 (t_P B s7.2)) (t + 112) 5 = some T := by rw [tp.1.gr]; exact g59
    have tb10 : sh_Tb T (cp_put w9 (t + 112) 2 (t_P B s7.2)) := tb9.fr tp.1
    have gv10 : bm_gi (cp_put w9 (t + 112) 2 (t_P B s7.2)) T 4 = g := by rw [tp.1.gi (by omega)]; exact gv9
    have hk11 : rk t (bm_sr (cp_put w9 (t + 112) 2 (t_P B s7.2)) (t + 112) 4 (some (pg_fn (t + 4) g))) := ⟨hk10.1, (q_gr_nk (by decide)).trans hk10.2.1, (q_gr_nk (by decide)).trans hk10.2.2⟩
    simp only [bm_c0_v, bm_c1_v, bm_c2_v, bm_c3_v, bm_c4_v, bm_c5_v, bm_u_some, decide_eq_true_eq, true_and, and_true, and_self, Bool.not_eq_true, Bool.not_eq_true', decide_eq_false_iff_not, if_true, if_false, ite_true, ite_false, eq_self, sp_complain hk9.1, hk10.1, hk10.2.2, g510, tb10.1, gv10, P10.1, sp_funAt P10, hk11.1, hk11.2.1]
    refine ⟨h9.put.1.1.1, ?_⟩
    refine tail _ (.inl (2, s.2 + 3)) tp h9.put ?_ (fun _ => by rw [if_pos (by omega)]) _ ⟨_, rfl, rfl⟩
    refine p7.bind (s2 := f_x (t_K B) 3 s7) (k := fun _ => .inl (2, s.2 + 3)) (fun z => (f_x_ok z).1 ▸ rfl) (fun z => ⟨c79.st.tr cp_put_st, fun a _ c0 _ => ?_⟩)
    have z7 : s7.1 = false := (f_x_ok z).1 ▸ rfl
    have := cp_put_0 (t := t) (w := w9) (e := 2) (a := t_P B s7.2) ((c79 2).trans c0)
    rw [(hd7 z7).1] at this ⊢
    exact ⟨(show (2 : Int) ≠ 0 by decide), this.1, this.2⟩
theorem rd_table (hc : ci t N B s w) (hs : f_see (t_K B) f_T s 12 12) (hl : bm_gi w (t + 112) 2 = 0 → yl t B pr s.2 w)
    (hq : ∀ w', ci t N B (f_tab (t_K B) (false, s.2 + 1)) w' → kf t w w' → pz t B (f_tab (t_K B) (false, s.2 + 1)) (y_tab (t_K B) (t_V B) pr s.2) (fun pr' => yl t B pr' (f_tab (t_K B) (false, s.2 + 1)).2 w') w w' → Φ (.inl none) w') : bm_Call bm_pg (d + 9) y_X0_readTable [bm_r (some (t + 112))] w Φ := by
  have hc' := hc
  obtain ⟨c1, c2, c3, c4, c5, c6, c7, c8⟩ := hc
  refine vc_X0_readTable ?_
  simp only [bm_c0_v, bm_c1_v, bm_c2_v, bm_c3_v, bm_c4_v, bm_c5_v, bm_u_some, decide_eq_true_eq, true_and, and_true, and_self, Bool.not_eq_true, Bool.not_eq_true', decide_eq_false_iff_not, if_true, if_false, ite_true, ite_false, eq_self, c2.1, c2.2.2, c3.1]
  by_cases c4' : bm_gi w (t + 4) 5 < 6
  · rw [if_pos c4']
    refine rd_table24 (pr := pr) hc' hs (fun c0 => ⟨hl c0, by have := (hl c0).2.1.1; omega⟩) (fun w' c' k' p' => hq w' c' k' (p'.cg2 (fun z c0 => ?_)))
    rw [y_tab_eq, if_neg (show ¬ 6 ≤ pr.2.length by have := (hl c0).2.1.1; omega)]
  · rw [if_neg c4']
    have tp : tf t w (cp_put w (t + 112) 4 (t_P B s.2)) := tf.rf.put
    simp only [bm_c0_v, bm_c1_v, bm_c2_v, bm_c3_v, bm_c4_v, bm_c5_v, bm_u_some, decide_eq_true_eq, true_and, and_true, and_self, Bool.not_eq_true, Bool.not_eq_true', decide_eq_false_iff_not, if_true, if_false, ite_true, ite_false, eq_self, c2.1, c2.2.1, c1.1.1.1, sp_startHere c1.1.1, c1.start, sp_complain c2.1]
    have pp : pz t B s (.inl (4, s.2)) (fun (_ : Unit) => True) w (cp_put w (t + 112) 4 (t_P B s.2)) := pz.put cq.rf (by decide)
    refine rd_table24 (pr := pr) (hc'.tf tp c1.put) hs (fun c0 => ?_) (fun w' c' k' p' => hq w' c' ((kf.tf tp).tr k') ?_)
    · obtain ⟨-, a, a1, -⟩ := pp.z0 hs.1 c0
      cases a1
    · refine (pp.stay (s2 := f_tab (t_K B) (false, s.2 + 1)) (fun _ => hs.1) (fun z => (p' z).1)).cg2 (fun z c0 => ?_)
      rw [y_tab_eq, if_pos (show 6 ≤ pr.2.length by have := (hl c0).2.1.1; omega)]
end RT
