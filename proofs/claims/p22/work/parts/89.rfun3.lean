/-! ===== reading in the class: functions, from their first token on ===== -/
theorem fn_clr_fr {w0 w : bm_W} {f : Nat} {A : Nat → Prop} (h : q_fr A w0 w) (h0 : A f) (h3 : A (f + 3)) (h4 : A (f + 4)) : q_fr A w0 (fn_clr w f) :=
  (((((rg_clr_fr h h3 h4).sq h0).si h0).si h0).si h0).si h0
theorem fn_clr_v {w : bm_W} {f : Nat} : bm_gi (fn_clr w f) f 6 = 0 ∧ bm_gi (fn_clr w f) f 7 = 0 ∧ bm_gi (fn_clr w f) f 8 = 0 ∧ bm_gi (fn_clr w f) f 9 = 0 ∧ ∀ i, i < 3 → bm_gi (fn_clr w f) (f + 3) i = 0 ∧ bm_gi (fn_clr w f) (f + 4) i = 0 := by
  unfold fn_clr
  refine ⟨?_, ?_, ?_, q_gi_eq, fun i hi => ⟨?_, ?_⟩⟩
  · rw [q_gi_nk (by decide), q_gi_nk (by decide), q_gi_nk (by decide), q_gi_eq]
  · rw [q_gi_nk (by decide), q_gi_nk (by decide), q_gi_eq]
  · rw [q_gi_nk (by decide), q_gi_eq]
  · rw [q_gi_ne (by omega), q_gi_ne (by omega), q_gi_ne (by omega), q_gi_ne (by omega)]
    have := rg_clr_lo (w := w) (r := f + 2) (j := (i : Int))
    unfold rg_lo at this
    rw [if_pos ⟨by omega, by omega⟩, Int.toNat_natCast] at this
    exact this
  · rw [q_gi_ne (by omega), q_gi_ne (by omega), q_gi_ne (by omega), q_gi_ne (by omega)]
    have := rg_clr_hi (w := w) (r := f + 2) (j := (i : Int))
    unfold rg_hi at this
    rw [if_pos ⟨by omega, by omega⟩, Int.toNat_natCast] at this
    exact this
theorem y_b_inr {α β : Type} {a : α} {k : α → (Int × Nat) ⊕ β} : y_b (.inr a) k = k a := rfl
theorem y_b_inl {α β : Type} {e : Int × Nat} {k : α → (Int × Nat) ⊕ β} : y_b (.inl e) k = .inl e := rfl
theorem y_ins_s {K V : Nat → Int} {n p : Nat} {ins : List y_in} : y_ins K V (n + 1) ins p = y_b (y_inp K V ins p) fun ins' => y_it K V n ins' (f_inp K (false, p)) := rfl
theorem f_ins_s {K : Nat → Int} {n : Nat} {s : Bool × Nat} : f_ins K (n + 1) s = f_it K n (f_inp K s) := rfl
theorem y_inp_len {K V : Nat → Int} {ins ins' : List y_in} {p : Nat} (h : y_inp K V ins p = .inr ins') : ins'.length = ins.length + 1 := by
  unfold y_inp at h
  split at h
  · cases h
  split at h
  · cases h
  cases e1 : y_wh K V (p + 2) (-20) 20 with
  | inl e => rw [e1] at h; cases h
  | inr lo =>
    rw [e1] at h
    simp only [y_b] at h
    cases e2 : y_wh K V ((f_wh K (false, p + 2)).2 + 1) lo 20 with
    | inl e => rw [e2] at h; cases h
    | inr hi =>
      rw [e2] at h
      cases h
      simp
theorem y_it_len {K V : Nat → Int} : ∀ (n : Nat) (ins ins' : List y_in) (s : Bool × Nat), y_it K V n ins s = .inr ins' → ins.length ≤ ins'.length
  | 0, ins, ins', s, h => by
    unfold y_it at h
    split at h
    · cases h; exact Nat.le_refl _
    · cases h; exact Nat.le_refl _
  | n + 1, ins, ins', s, h => by
    unfold y_it at h
    split at h
    · rw [y_ins_s] at h
      cases e1 : y_inp K V ins (s.2 + 1) with
      | inl e => rw [e1] at h; cases h
      | inr i1 =>
        rw [e1] at h
        have a := y_it_len n i1 ins' _ h
        have b := y_inp_len e1
        omega
    · cases h; exact Nat.le_refl _
theorem pz.cg2 {α : Type} {t : Nat} {B : Int → Int} {s : Bool × Nat} {w w' : bm_W} {r r' : (Int × Nat) ⊕ α} {G : α → Prop} (h : pz t B s r G w w') (e : s.1 = false → bm_gi w (t + 112) 2 = 0 → r = r') : pz t B s r' G w w' := fun z => ⟨(h z).1, fun c => by rw [← e z c]; exact (h z).2 c⟩
section RF
variable {d t N : Nat} {B : Int → Int} {s : Bool × Nat} {w : bm_W} {Φ : bm_Rt → bm_W → Prop} {pr : y_pr} {ins : List y_in} {p f : Nat}
theorem yl_q {q q' : Nat} {w' : bm_W} (h : yl t B pr q w) (hl : pr.1.length < 6) (ho : rw_ok t w) (hff : f = pg_fn (t + 4) (pr.1.length : Int)) (a1 : q_fr (fun a => a = t ∨ a = t + 112 ∨ a = f ∨ a = f + 1 ∨ a = f + 3 ∨ a = f + 4) w w') (hI : y_I (t_K B) q' = y_I (t_K B) q) : yl t B pr q' w' := by
  have ef : f = t + 22 + 8 * pr.1.length := by
    rw [hff]
    unfold pg_fn
    rw [if_pos (by omega)]
    omega
  refine ⟨h.1.bk (a1.gi (by omega)) (fun x hx a u v j => ?_), h.2.1.mv ho (a1.gi (by omega)) (fun a j u v z => ⟨⟨a1.gi (by omega), a1.gl (by omega)⟩, by rw [a1.gr]⟩), ?_⟩
  · have ex : pg_fn (t + 4) (x : Int) = t + 22 + 8 * x := by
      unfold pg_fn
      rw [if_pos (by omega)]
      omega
    rw [ex] at u v
    exact ⟨a1.gi (by omega), a1.gl (by omega)⟩
  · rw [a1.gi (by omega), hI]
    exact h.2.2
theorem pz.stay {α β : Type} {s1 s2 : Bool × Nat} {w1 w2 : bm_W} {e : Int × Nat} {G : α → Prop} {G' : β → Prop} (h : pz t B s1 (.inl e) G w w1) (hs : s2.1 = false → s1.1 = false) (st : s2.1 = false → cp_st t w1 w2) : pz t B s2 (.inl e) G' w w2 := fun z => by
  have a1 := h (hs z)
  refine ⟨a1.1.tr (st z), fun c => ?_⟩
  have a2 := a1.2 c
  have := st z (by rw [a2.2.1]; exact a2.1)
  exact ⟨a2.1, this.1.trans a2.2.1, this.2.trans a2.2.2⟩
/-- no complaint, so none ahead -/
theorem pz.z0 {α : Type} {s1 : Bool × Nat} {w1 : bm_W} {r : (Int × Nat) ⊕ α} {G : α → Prop} (h : pz t B s1 r G w w1) (hs : s1.1 = false) (c : bm_gi w1 (t + 112) 2 = 0) : bm_gi w (t + 112) 2 = 0 ∧ ∃ a, r = .inr a ∧ G a := by
  have a1 := h hs
  by_cases z : bm_gi w (t + 112) 2 = 0
  · refine ⟨z, ?_⟩
    have a2 := a1.2 z
    cases r with
    | inl e => exact absurd c (by rw [a2.2.1]; exact a2.1)
    | inr a => exact ⟨a, rfl, a2.2⟩
  · exact absurd c (by rw [(a1.1 z).1]; exact z)
/-- behind the count of functions -/
theorem rd_fun24 (hc : ci t N B s w) (hs : f_see (t_K B) f_T s 4 4) (hl : bm_gi w (t + 112) 2 = 0 → yl t B pr s.2 w ∧ pr.1.length < 6)
    (hq : ∀ w', ci t N B (f_fun (t_K B) (false, s.2 + 1)) w' → kf t w w' → pz t B (f_fun (t_K B) (false, s.2 + 1)) (if y_tk (t_V B) pr (t_V B (s.2 + 1)) then .inl (3, s.2 + 1) else y_b (y_ins (t_K B) (t_V B) f_T [] (s.2 + 3)) fun ins => y_fun3 (t_K B) (t_V B) pr ins s.2 (f_ins (t_K B) f_T (false, s.2 + 3)).2) (fun pr' => yl t B pr' (f_fun (t_K B) (false, s.2 + 1)).2 w') w w' → Φ (.inl none) w') : bk_X0_readFun_24 (d + 1252) Φ (t + 112) w := by
  obtain ⟨c1, c2, c3, c4, c5, c6, c7, c8⟩ := hc
  have N5 := c1.1.2.2.1
  have K0 := c1.1.2.2.2
  have lN := f_see_N K0 (by decide) c1.2.2.2.2.1 hs
  refine vb_X0_readFun_24 ?_
  simp only [bm_c0_v, bm_c1_v, bm_c2_v, bm_c3_v, bm_c4_v, bm_c5_v, bm_u_some, decide_eq_true_eq, true_and, and_true, and_self, Bool.not_eq_true, Bool.not_eq_true', decide_eq_false_iff_not, if_true, if_false, ite_true, ite_false, eq_self, c2.1, c2.2.1, c1.1.1.1]
  refine rt_expect c1 (by decide) (fun w2 h2 f2 q2 => ?_)
  have e2 : f_exp (t_K B) f_T 4 s = (false, s.2 + 1) := if_pos hs
  rw [e2] at h2
  have hk2 := c2.tf f2
  have P2 : sh_Pg (t + 4) w2 := c3.fr f2.1
  have g4 : bm_gi w2 (t + 4) 4 = bm_gi w (t + 4) 4 := f2.1.gi (by omega)
  obtain ⟨f, hf⟩ : ∃ f, f = pg_fn (t + 4) (bm_gi w (t + 4) 4) := ⟨_, rfl⟩
  have rf := pg_fn_r (t + 4) (bm_gi w (t + 4) 4)
  rw [← hf] at rf
  have F3 : q_fr (fun a => a = f ∨ a = f + 3 ∨ a = f + 4) w2 (fn_clr w2 f) := fn_clr_fr q_fr.rf (by simp) (by simp) (by simp)
  have V3 := fn_clr_v (w := w2) (f := f)
  simp only [bm_c0_v, bm_c1_v, bm_c2_v, bm_c3_v, bm_c4_v, bm_c5_v, bm_u_some, decide_eq_true_eq, true_and, and_true, and_self, Bool.not_eq_true, Bool.not_eq_true', decide_eq_false_iff_not, if_true, if_false, ite_true, ite_false, eq_self, hk2.1, hk2.2.2, P2.1, sp_nextFun P2, g4, ← hf]
  generalize fn_clr w2 f = w3 at F3 V3 ⊢
  -- the world with the compiler's function
  have X4 : q_gw (fun a => False) (fun a => a = t + 112) 0 0 w3 (bm_sr w3 (t + 112) 4 (some f)) := q_gw.rf.sr (Or.inl rfl)
  have hk3 : rk t w3 := ⟨by rw [F3.kt]; exact hk2.1, by rw [F3.gr]; exact hk2.2.1, by rw [F3.gr]; exact hk2.2.2⟩
  have o3 : rw_ok t w3 := (c5.fr f2.1).fr F3
  have hk4 : rk t (bm_sr w3 (t + 112) 4 (some f)) := ⟨hk3.1, (q_gr_nk (by decide)).trans hk3.2.1, (q_gr_nk (by decide)).trans hk3.2.2⟩
  have g44 : bm_gr (bm_sr w3 (t + 112) 4 (some f)) (t + 112) 4 = some f := q_gr_eq
  have P4 : sh_Pg (t + 4) (bm_sr w3 (t + 112) 4 (some f)) := (P2.fr F3).gwR X4 o3 (fun a z => z)
  have M4 : sh_Mc (t + 113) (t + 4) (bm_sr w3 (t + 112) 4 (some f)) := ((c4.fr f2.1).fr F3).gw X4 (by have := o3.1; omega) (by omega)
  have O4 : rw_ok t (bm_sr w3 (t + 112) 4 (some f)) := o3.gw X4 (fun j hj => by omega)
  have T4 : sh_Tk t (bm_sr w3 (t + 112) 4 (some f)) := (h2.1.1.fr F3).gw X4 (by have := o3.1; omega) (by omega)
  have h4 : rt t N f_T B (false, s.2 + 1) (bm_sr w3 (t + 112) 4 (some f)) := h2.same T4 (fun a j _ _ => F3.gi (by omega)) (fun j => F3.gl (by omega))
  have gi4 : ∀ a j, bm_gi (bm_sr w3 (t + 112) 4 (some f)) a j = bm_gi w3 a j := fun _ _ => rfl
  have gl4 : ∀ a j, bm_gl (bm_sr w3 (t + 112) 4 (some f)) a j = bm_gl w3 a j := fun _ _ => rfl
  have gr4 : ∀ a j, a ≠ t + 112 → bm_gr (bm_sr w3 (t + 112) 4 (some f)) a j = bm_gr w3 a j := fun a j h => q_gr_ne h
  have K4 : kf t w (bm_sr w3 (t + 112) 4 (some f)) := ((kf.tf f2).tr (kf.of F3 (fun a z => Or.inl (by omega)))).tr kf.sr
  have kt4 : bm_kt w3 (t + 112) = 0 := hk3.1
  generalize bm_sr w3 (t + 112) 4 (some f) = w4 at X4 hk4 g44 P4 M4 O4 T4 h4 gi4 gl4 gr4 K4 ⊢
  have C4 : ci t N B (false, s.2 + 1) w4 := by
    refine ⟨h4, hk4, P4, M4, O4, ?_, ?_, fun i => ?_⟩
    · rw [gi4, F3.gi (by omega), g4]; exact c6
    · rw [gi4, F3.gi (by omega), f2.1.gi (by omega)]; exact c7
    · have r1 := pg_fn_r (t + 4) i
      by_cases z : pg_fn (t + 4) i = f
      · rw [z, gi4, V3.1]; omega
      · have := pg_fn_ap hf z
        rw [gi4, F3.gi (by omega), f2.1.gi (by omega)]; exact c8 i
  have x4 : bm_gi w4 (t + 4) 4 = bm_gi w (t + 4) 4 := by rw [gi4, F3.gi (by omega), g4]
  have fn4 : sh_Fn f w4 := by rw [hf]; exact P4.fn _
  -- what holds there if all is well
  have cz4 : bm_gi w4 (t + 112) 2 = bm_gi w (t + 112) 2 := by rw [gi4, F3.gi (by omega)]; exact q2 2
  have L4 : bm_gi w (t + 112) 2 = 0 → yl t B pr (s.2 + 1) w4 ∧ pr.1.length < 6 ∧ f = pg_fn (t + 4) (pr.1.length : Int) ∧ yi f B [] w4 ∧ bm_gi w4 f 7 = 0 ∧ bm_gi w4 f 8 = 0 ∧ bm_gi w4 f 9 = 0 := fun c0 => by
    obtain ⟨y0, y1⟩ := hl c0
    have yb := y0.tf c5 f2 (y_I_no (K := t_K B) (q := s.2) (by have := hs.2.2; omega))
    have ee : bm_gi w (t + 4) 4 = (pr.1.length : Int) := y0.1.1
    have hf' : f = pg_fn (t + 4) (pr.1.length : Int) := by rw [hf, ee]
    have ef : f = t + 22 + 8 * pr.1.length := by
      rw [hf']
      unfold pg_fn
      rw [if_pos (by omega)]
      omega
    refine ⟨⟨yb.1.bk (by rw [gi4, F3.gi (by omega)]) (fun x hx a u v j => ?_), yb.2.1.mv (c5.fr f2.1) (by rw [gi4, F3.gi (by omega)]) (fun a j u v z => ⟨⟨by rw [gi4, F3.gi (by omega)], by rw [gl4, F3.gl (by omega)]⟩, by rw [gr4 a j z, F3.gr]⟩), by rw [gi4, F3.gi (by omega)]; exact yb.2.2⟩, y1, hf', ⟨by rw [gi4, V3.1]; rfl, by simp, fun i hi => by simp at hi, fun i _ hi => by rw [gi4, gi4]; exact V3.2.2.2.2 i hi⟩, by rw [gi4]; exact V3.2.1, by rw [gi4]; exact V3.2.2.1, by rw [gi4]; exact V3.2.2.2.1⟩
    have ex : pg_fn (t + 4) (x : Int) = t + 22 + 8 * x := by
      unfold pg_fn
      rw [if_pos (by omega)]
      omega
    rw [ex] at u v
    exact ⟨by rw [gi4, F3.gi (by omega)], by rw [gl4, F3.gl (by omega)]⟩
  simp only [bm_c0_v, bm_c1_v, bm_c2_v, bm_c3_v, bm_c4_v, bm_c5_v, bm_u_some, decide_eq_true_eq, true_and, and_true, and_self, Bool.not_eq_true, Bool.not_eq_true', decide_eq_false_iff_not, if_true, if_false, ite_true, ite_false, eq_self, kt4, hk4.1, hk4.2.1, T4.1, sp_startHere T4, h4.start, g44]
  refine rd_itemName (d := d + 1248) h4 hk4 P4 (by rw [x4]; exact c6.2) (by exact C4.2.2.2.2.2.2.1.2) (fun w5 h5 f5 p5 => ?_)
  have hk5 := hk4.tf f5
  have fn5 : sh_Fn f w5 := fn4.fr f5.1
  have X6 : q_fr (fun a => a = f) w5 (bm_sq w5 f 5 (t_V B (s.2 + 1))) := q_fr.rf.sq rfl
  have hk6 : rk t (bm_sq w5 f 5 (t_V B (s.2 + 1))) := hk5
  have h6 : rt t N f_T B (f_x (t_K B) 3 (false, s.2 + 1)) (bm_sq w5 f 5 (t_V B (s.2 + 1))) := h5.same h5.1.1 (fun _ _ _ _ => rfl) (fun j => q_gl_ne (by omega))
  have fn6 : sh_Fn f (bm_sq w5 f 5 (t_V B (s.2 + 1))) := fn5
  have gi6 : ∀ a j, bm_gi (bm_sq w5 f 5 (t_V B (s.2 + 1))) a j = bm_gi w5 a j := fun _ _ => rfl
  have gl6 : ∀ a j, a ≠ f → bm_gl (bm_sq w5 f 5 (t_V B (s.2 + 1))) a j = bm_gl w5 a j := fun a j h => q_gl_ne h
  have gn6 : bm_gl (bm_sq w5 f 5 (t_V B (s.2 + 1))) f 5 = t_V B (s.2 + 1) := q_gl_eq
  have g46 : bm_gr (bm_sq w5 f 5 (t_V B (s.2 + 1))) (t + 112) 4 = some f := by rw [X6.gr, f5.1.gr]; exact g44
  simp only [bm_c0_v, bm_c1_v, bm_c2_v, bm_c3_v, bm_c4_v, bm_c5_v, bm_u_some, decide_eq_true_eq, true_and, and_true, and_self, Bool.not_eq_true, Bool.not_eq_true', decide_eq_false_iff_not, if_true, if_false, ite_true, ite_false, eq_self, fn5.1, hk6.1, hk6.2.1, h6.1.1.1]
  generalize bm_sq w5 f 5 (t_V B (s.2 + 1)) = w6 at X6 hk6 h6 fn6 gi6 gl6 gn6 g46 ⊢
  refine rt_expect h6 (by decide) (fun w7 h7 f7 q7 => ?_)
  have hk7 := hk6.tf f7
  have g47 : bm_gr w7 (t + 112) 4 = some f := by rw [f7.1.gr]; exact g46
  have fn7 : sh_Fn f w7 := fn6.fr f7.1
  have i7 : ∀ j, bm_gi w7 f j = bm_gi w4 f j := fun j => by rw [f7.1.gi (by omega), gi6, f5.1.gi (by omega)]
  have C7 : ci t N B (f_x (t_K B) 16 (f_x (t_K B) 3 (false, s.2 + 1))) w7 := by
    have fr7 : q_fr (fun a => a = t ∨ a = t + 112 ∨ a = f) w4 w7 := ((f5.1.mo (fun a z => by omega)).tr (X6.mo (fun a z => by omega))).tr (f7.1.mo (fun a z => by omega))
    refine C4.mv fr7 h7 ?_ ?_ (fun i => ?_)
    · rw [fr7.gi (by omega), x4]; exact c6
    · rw [fr7.gi (by omega)]; exact C4.2.2.2.2.2.2.1
    · have r1 := pg_fn_r (t + 4) i
      by_cases z : pg_fn (t + 4) i = f
      · rw [z, i7, ← z]; exact C4.2.2.2.2.2.2.2 i
      · have := pg_fn_ap hf z
        rw [fr7.gi (by omega)]; exact C4.2.2.2.2.2.2.2 i
  have K7 : kf t w4 w7 := ((kf.tf f5).tr (kf.of X6 (fun a z => Or.inl (by omega)))).tr (kf.tf f7)
  -- complaints so far
  have c67 : cq t w5 w7 := fun j => (q7 j).trans (gi6 _ _)
  have hd1 : ∀ z : (f_x (t_K B) 16 (f_x (t_K B) 3 (false, s.2 + 1))).1 = false, f_x (t_K B) 16 (f_x (t_K B) 3 (false, s.2 + 1)) = (false, s.2 + 3) ∧ y_I (t_K B) (s.2 + 3) = y_I (t_K B) (s.2 + 1) := fun z => by
    have a := f_x_ok z
    have b := f_x_ok (k := 3) (s := (false, s.2 + 1)) (by rw [a.1])
    have e : _ ∧ y_I (t_K B) (f_x (t_K B) 16 (f_x (t_K B) 3 (false, s.2 + 1))).2 = y_I (t_K B) (s.2 + 1) := ((f_noi_x (K := t_K B) (k := 3) (by decide)).co (f_noi_x (k := 16) (by decide))) (false, s.2 + 1) z
    rw [b.2.2] at a e ⊢
    simp only at a e
    rw [a.2.2] at e ⊢
    exact ⟨rfl, e.2⟩
  have p7 : pz t B (f_x (t_K B) 16 (f_x (t_K B) 3 (false, s.2 + 1))) (if y_tk (t_V B) pr (t_V B (s.2 + 1)) then .inl (3, s.2 + 1) else .inr ()) (fun _ => True) w w7 := by
    have a := (p5.sil (s2 := f_x (t_K B) 16 (f_x (t_K B) 3 (false, s.2 + 1))) (G' := fun _ => True) (fun z => (f_x_ok z).1 ▸ rfl) c67 (fun _ _ _ _ _ => trivial)).pre (w := w) (fun j => by rw [gi4, F3.gi (by omega)]; exact q2 j)
    refine a.cg2 (fun z c0 => ?_)
    obtain ⟨y0, y1, -⟩ := L4 c0
    have nf1 := pg_nl_ix (w := w4) (p := t + 4) (v := t_V B (s.2 + 1)) (V := t_V B) 7 0 (pr.1.map (·.1)) (by rw [List.length_map]; omega) (by rw [List.length_map, Nat.zero_add]; exact y0.1.1) (fun j hj => by
      rw [List.length_map] at hj
      rw [q_gdm (a := y_f0) hj, Nat.zero_add]
      exact (y0.1.2.2 j hj).1)
    have nt1 := pg_ta_ix (w := w4) (p := t + 4) (v := t_V B (s.2 + 1)) (V := t_V B) 7 0 (pr.2.map (·.1)) (by rw [List.length_map]; have := y0.2.1.2.1; omega) (by rw [List.length_map, Nat.zero_add]; exact y0.2.1.1) (fun j hj => by
      rw [List.length_map] at hj
      rw [q_gdm (a := y_t0) hj, Nat.zero_add]
      exact (y0.2.1.2.2 j hj).1)
    have e1 : pg_nm w4 (t + 4) (t_V B (s.2 + 1)) = y_ix (t_V B) (t_V B (s.2 + 1)) (pr.1.map (·.1)) 0 := nf1
    have e2 : pg_ta w4 (t + 4) (t_V B (s.2 + 1)) 7 0 = y_ix (t_V B) (t_V B (s.2 + 1)) (pr.2.map (·.1)) 0 := nt1
    simp only [e1, e2]
    by_cases k1 : y_tk (t_V B) pr (t_V B (s.2 + 1))
    · rw [if_pos k1, if_pos (Or.symm k1)]
    · rw [if_neg k1, if_neg (fun z => k1 (Or.symm z))]
  simp only [bm_c0_v, bm_c1_v, bm_c2_v, bm_c3_v, bm_c4_v, bm_c5_v, bm_u_some, decide_eq_true_eq, true_and, and_true, and_self, Bool.not_eq_true, Bool.not_eq_true', decide_eq_false_iff_not, if_true, if_false, ite_true, ite_false, eq_self, hk7.1]
  refine rd_input (d := d + 1247) (ins := []) h7 hk7 g47 fn7 (by omega) (by omega) (by rw [i7]; have := C4.2.2.2.2.2.2.2 (bm_gi w (t + 4) 4); rw [← hf] at this; exact this) (fun z c0 => ?_) (fun w8 h8 n8 x8 p8 => ?_)
  · have z2 := (p7 z)
    by_cases c1' : bm_gi w (t + 112) 2 = 0
    · have y0 := (L4 c1').2.2.2.1
      refine ⟨(i7 6).trans y0.1, y0.2.1, fun i hi => by simp at hi, fun i hi hi3 => ?_⟩
      have := y0.2.2.2 i hi hi3
      rw [f7.1.gi (by omega), f7.1.gi (by omega), gi6, gi6, f5.1.gi (by omega), f5.1.gi (by omega)]
      exact this
    · exact absurd c0 (by rw [(z2.1 c1').1]; exact c1')
  rw [bm_c0_v]
  obtain ⟨sB, hsB⟩ : ∃ sB, sB = f_x (t_K B) 16 (f_x (t_K B) 3 (false, s.2 + 1)) := ⟨_, rfl⟩
  have h7 : rt t N f_T B sB w7 := by rw [hsB]; exact h7
  have C7 : ci t N B sB w7 := by rw [hsB]; exact C7
  rw [← hsB] at hd1 p7
  have h8 : rt t N f_T B (f_inp (t_K B) sB) w8 := by rw [hsB]; exact h8
  have p8 : pz t B (f_inp (t_K B) sB) (y_inp (t_K B) (t_V B) [] sB.2) (fun ins' => yi f B ins' w8) w7 w8 := by rw [hsB]; exact p8
  have hk8 := n8.rk hk7
  have g48 : bm_gr w8 (t + 112) 4 = some f := by rw [n8.1.gr]; exact g47
  have pb := p7.bind (s2 := f_inp (t_K B) sB) (k := fun _ => y_inp (t_K B) (t_V B) [] sB.2) (G := fun ins' => yi f B ins' w8) (w2 := w8) (fun z => by rw [(f_inp_ok z).1]) (fun z => ⟨(p8 z).1, fun a _ c0 _ => (p8 z).2 c0⟩)
  have eY : ∀ p, y_ins (t_K B) (t_V B) f_T [] p = y_b (y_inp (t_K B) (t_V B) [] p) fun ins' => y_it (t_K B) (t_V B) 1500 ins' (f_inp (t_K B) (false, p)) := fun p => y_ins_s (n := 1500)
  have eF : f_ins (t_K B) f_T sB = f_it (t_K B) 1500 (f_inp (t_K B) sB) := f_ins_s (n := 1500)
  have okIns : (f_ins (t_K B) f_T sB).1 = false → (f_inp (t_K B) sB).1 = false := fun z => by
    rw [eF] at z
    unfold f_it at z
    split at z
    · rename_i q; exact q.1
    · exact z
  have e9 : f_fun (t_K B) (false, s.2 + 1) = f_x (t_K B) 19 (f_bod (t_K B) (f_x (t_K B) 22 (f_x (t_K B) 17 (f_ins (t_K B) f_T sB)))) := by rw [hsB]; rfl
  have okFun : (f_fun (t_K B) (false, s.2 + 1)).1 = false → (f_ins (t_K B) f_T sB).1 = false := fun z => by
    rw [e9] at z
    have z1 := f_x_ok z
    have far : (f_x (t_K B) 22 (f_x (t_K B) 17 (f_ins (t_K B) f_T sB))).2 ≤ N := by
      rw [hsB]
      exact ((f_far_hd K0) (false, s.2 + 1) lN).2.1
    have z2 := f_far.ok (f_far_bod (N := N) K0) far (congrArg Prod.fst z1.1)
    have z3 := f_x_ok z2
    have z4 := f_x_ok (congrArg Prod.fst z3.1)
    exact congrArg Prod.fst z4.1
  have sBe : (f_fun (t_K B) (false, s.2 + 1)).1 = false → sB = (false, s.2 + 3) := fun z => (hd1 (by rw [(f_inp_ok (okIns (okFun z))).1])).1
  -- behind the inputs
  have fin : ∀ w9, ci t N B (f_ins (t_K B) f_T sB) w9 → kf t w w9 → bm_gr w9 (t + 112) 4 = some f → bm_gi w9 (t + 4) 4 = bm_gi w (t + 4) 4 → nf t f w7 w9 → pz t B (f_ins (t_K B) f_T sB) (y_b (if y_tk (t_V B) pr (t_V B (s.2 + 1)) then .inl (3, s.2 + 1) else .inr ()) fun _ => y_ins (t_K B) (t_V B) f_T [] sB.2) (fun ins' => yi f B ins' w9) w w9 → bk_X0_readFun_108 (d + 1252) Φ (t + 112) (t_P B (s.2 + 1)) w9 := by
    intro w9 c9 k9 g9 x9 n79 P9
    cases hR : (y_b (if y_tk (t_V B) pr (t_V B (s.2 + 1)) then (.inl (3, s.2 + 1) : (Int × Nat) ⊕ Unit) else .inr ()) fun _ => y_ins (t_K B) (t_V B) f_T [] sB.2) with
    | inl e =>
      rw [hR] at P9
      refine rd_fun3 (pr := pr) (ins := []) (p := s.2) c9 g9 (by rw [x9]; exact hf) rfl (fun z c => ?_) (fun w' c' k' p' => ?_)
      · obtain ⟨-, a, a1, -⟩ := P9.z0 z c
        cases a1
      · rw [← e9] at c' p'
        refine hq w' c' (k9.tr k') ?_
        refine (P9.stay (s2 := f_fun (t_K B) (false, s.2 + 1)) okFun (fun z => (p' z).1)).cg (fun z => ?_)
        rw [sBe z] at hR
        by_cases k1 : y_tk (t_V B) pr (t_V B (s.2 + 1))
        · rw [if_pos k1] at hR ⊢
          cases hR
          rfl
        · rw [if_neg k1, y_b_inr] at hR
          rw [if_neg k1, hR, y_b_inl]
    | inr ins2 =>
      rw [hR] at P9
      have k1 : ¬ y_tk (t_V B) pr (t_V B (s.2 + 1)) := fun k1 => by rw [if_pos k1] at hR; cases hR
      have hR' : y_ins (t_K B) (t_V B) f_T [] sB.2 = .inr ins2 := by rw [if_neg k1, y_b_inr] at hR; exact hR
      refine rd_fun3 (pr := pr) (ins := ins2) (p := s.2) c9 g9 (by rw [x9]; exact hf) rfl (fun z c => ?_) (fun w' c' k' p' => ?_)
      · obtain ⟨cz, a, a1, a2⟩ := P9.z0 z c
        cases a1
        obtain ⟨l1, l2, l3, l4, l5, l6, l7⟩ := L4 cz
        have sBx := (hd1 (by rw [(f_inp_ok (okIns z)).1]))
        have hI : y_I (t_K B) (f_ins (t_K B) f_T sB).2 = y_I (t_K B) (s.2 + 1) := by
          have a := (f_noi_ins (K := t_K B) f_T sB z).2
          rw [a, sBx.1]
          exact sBx.2
        have q4 : q_fr (fun a => a = t ∨ a = t + 112 ∨ a = f) w4 w7 := ((f5.1.mo (fun a z => by omega)).tr (X6.mo (fun a z => by omega))).tr (f7.1.mo (fun a z => by omega))
        have y9 := yl_q l1 l2 C4.2.2.2.2.1 l3 ((q4.mo (fun a z => by omega)).tr (n79.1.mo (fun a z => by omega))) hI
        have len : 1 ≤ ins2.length := by
          have e0 : y_b (y_inp (t_K B) (t_V B) [] sB.2) (fun ins' => y_it (t_K B) (t_V B) 1500 ins' (f_inp (t_K B) (false, sB.2))) = .inr ins2 := by rw [← eY]; exact hR'
          cases e1 : y_inp (t_K B) (t_V B) [] sB.2 with
          | inl e => rw [e1] at e0; cases e0
          | inr i1 =>
            rw [e1] at e0
            have := y_it_len _ _ _ _ e0
            have := y_inp_len e1
            omega
        unfold yg
        rw [← l3]
        exact ⟨y9, l2, by rw [n79.2.2.2.2 f 5 (by omega), f7.2.2.2]; exact gn6, a2, len, (n79.2.2.2.1 7 (by decide)).trans ((i7 7).trans l5), (n79.2.2.2.1 8 (by decide)).trans ((i7 8).trans l6), (n79.2.2.2.1 9 (by decide)).trans ((i7 9).trans l7)⟩
      · rw [← e9] at c' p'
        refine hq w' c' (k9.tr k') ?_
        have := P9.bind (s2 := f_fun (t_K B) (false, s.2 + 1)) (k := fun ins => y_fun3 (t_K B) (t_V B) pr ins s.2 (f_ins (t_K B) f_T sB).2) (G := fun pr' => yl t B pr' (f_fun (t_K B) (false, s.2 + 1)).2 w') (w2 := w') okFun (fun z => ⟨(p' z).1, fun a ha c0 _ => by
          cases ha
          exact (p' z).2 c0⟩)
        refine this.cg (fun z => ?_)
        rw [if_neg k1]
        rw [sBe z] at hR' ⊢
        rw [hR']
  -- the rest of the inputs, whatever was told so far
  have rest : ∀ ins1 : List y_in, ((f_inp (t_K B) sB).1 = false → bm_gi w8 (t + 112) 2 = 0 → yi f B ins1 w8) → (∀ w9, ci t N B (f_ins (t_K B) f_T sB) w9 → kf t w w9 → bm_gr w9 (t + 112) 4 = some f → bm_gi w9 (t + 4) 4 = bm_gi w (t + 4) 4 → nf t f w7 w9 → pz t B (f_ins (t_K B) f_T sB) (y_it (t_K B) (t_V B) 1500 ins1 (f_inp (t_K B) sB)) (fun ins' => yi f B ins' w9) w8 w9 → bk_X0_readFun_108 (d + 1252) Φ (t + 112) (t_P B (s.2 + 1)) w9) → bk_X0_readFun_79 (d + 1252) Φ (t + 112) (t_P B (s.2 + 1)) 1 w8 := by
    intro ins1 hy1 hq1
    refine rd_inputs (d := d + 1246) 1500 1 (f_inp (t_K B) sB) w8 ins1 h8 hk8 g48 (n8.shFn fn7) (by omega) (by omega) x8 hy1 (by omega) (Int.le_refl _) ?_ (fun w9 h9 n9 x9 p9 => ?_)
    · cases e : (f_inp (t_K B) sB).1 with
      | true => exact Or.inr rfl
      | false =>
        have sBok : sB.1 = false := by rw [(f_inp_ok e).1]
        have rng := f_far_inp K0 sB h7.2.2.2.2.1
        rw [(hd1 sBok).1] at rng ⊢
        exact Or.inl (by have := rng.1; simp only at this; omega)
    · rw [← eF] at h9 p9
      have n79 := n8.tr n9
      refine hq1 w9 ?_ ((K4.tr K7).tr (kf.of n79.1 (fun a z => Or.inl (by omega)))) (by rw [n9.1.gr]; exact g48) ?_ n79 p9
      · refine C7.mv n79.1 h9 ?_ ?_ (fun i => ?_)
        · rw [n79.1.gi (by omega)]; exact C7.2.2.2.2.2.1
        · rw [n79.1.gi (by omega)]; exact C7.2.2.2.2.2.2.1
        · have r1 := pg_fn_r (t + 4) i
          by_cases z : pg_fn (t + 4) i = f
          · rw [z]; exact x9
          · have := pg_fn_ap hf z
            rw [n79.1.gi (by omega)]; exact C7.2.2.2.2.2.2.2 i
      · rw [n79.1.gi (by omega), f7.1.gi (by omega), gi6, f5.1.gi (by omega)]; exact x4
  cases hR : (y_b (if y_tk (t_V B) pr (t_V B (s.2 + 1)) then (.inl (3, s.2 + 1) : (Int × Nat) ⊕ Unit) else .inr ()) fun _ => y_inp (t_K B) (t_V B) [] sB.2) with
  | inl e =>
    rw [hR] at pb
    refine rest [] (fun z c => ?_) (fun w9 c9 k9 g9 x9 n79 p9 => fin w9 c9 k9 g9 x9 n79 ?_)
    · obtain ⟨-, a, a1, -⟩ := pb.z0 z c
      cases a1
    · refine (pb.stay (s2 := f_ins (t_K B) f_T sB) okIns (fun z => (p9 z).1)).cg (fun z => ?_)
      by_cases k1 : y_tk (t_V B) pr (t_V B (s.2 + 1))
      · rw [if_pos k1] at hR ⊢
        cases hR
        rfl
      · rw [if_neg k1, y_b_inr] at hR
        rw [if_neg k1, y_b_inr, eY, hR, y_b_inl]
  | inr ins1 =>
    rw [hR] at pb
    have k1 : ¬ y_tk (t_V B) pr (t_V B (s.2 + 1)) := fun k1 => by rw [if_pos k1] at hR; cases hR
    have hR' : y_inp (t_K B) (t_V B) [] sB.2 = .inr ins1 := by rw [if_neg k1, y_b_inr] at hR; exact hR
    refine rest ins1 (fun z c => ?_) (fun w9 c9 k9 g9 x9 n79 p9 => fin w9 c9 k9 g9 x9 n79 ?_)
    · obtain ⟨-, a, a1, a2⟩ := pb.z0 z c
      cases a1
      exact a2
    · have := pb.bind (s2 := f_ins (t_K B) f_T sB) (k := fun ins => y_it (t_K B) (t_V B) 1500 ins (f_inp (t_K B) sB)) (G := fun ins' => yi f B ins' w9) (w2 := w9) okIns (fun z => ⟨(p9 z).1, fun a ha c0 _ => by
        cases ha
        exact (p9 z).2 c0⟩)
      refine this.cg (fun z => ?_)
      rw [if_neg k1]
      rw [y_b_inr, y_b_inr, eY, hR', y_b_inr, ← (f_inp_ok (okIns z)).1]
theorem rd_fun (hc : ci t N B s w) (hs : f_see (t_K B) f_T s 4 4) (hl : bm_gi w (t + 112) 2 = 0 → yl t B pr s.2 w)
    (hq : ∀ w', ci t N B (f_fun (t_K B) (false, s.2 + 1)) w' → kf t w w' → pz t B (f_fun (t_K B) (false, s.2 + 1)) (y_fun (t_K B) (t_V B) pr s.2) (fun pr' => yl t B pr' (f_fun (t_K B) (false, s.2 + 1)).2 w') w w' → Φ (.inl none) w') : bm_Call bm_pg (d + 1253) y_X0_readFun [bm_r (some (t + 112))] w Φ := by
  have hc' := hc
  obtain ⟨c1, c2, c3, c4, c5, c6, c7, c8⟩ := hc
  refine vc_X0_readFun ?_
  simp only [bm_c0_v, bm_c1_v, bm_c2_v, bm_c3_v, bm_c4_v, bm_c5_v, bm_u_some, decide_eq_true_eq, true_and, and_true, and_self, Bool.not_eq_true, Bool.not_eq_true', decide_eq_false_iff_not, if_true, if_false, ite_true, ite_false, eq_self, c2.1, c2.2.2, c3.1]
  by_cases c4' : bm_gi w (t + 4) 4 < 6
  · rw [if_pos c4']
    refine rd_fun24 (pr := pr) hc' hs (fun c0 => ⟨hl c0, by have := (hl c0).1.1; omega⟩) (fun w' c' k' p' => hq w' c' k' (p'.cg2 (fun z c0 => ?_)))
    rw [y_fun_eq, if_neg (show ¬ 6 ≤ pr.1.length by have := (hl c0).1.1; omega)]
  · rw [if_neg c4']
    have tp : tf t w (cp_put w (t + 112) 4 (t_P B s.2)) := tf.rf.put
    simp only [bm_c0_v, bm_c1_v, bm_c2_v, bm_c3_v, bm_c4_v, bm_c5_v, bm_u_some, decide_eq_true_eq, true_and, and_true, and_self, Bool.not_eq_true, Bool.not_eq_true', decide_eq_false_iff_not, if_true, if_false, ite_true, ite_false, eq_self, c2.1, c2.2.1, c1.1.1.1, sp_startHere c1.1.1, c1.start, sp_complain c2.1]
    have pp : pz t B s (.inl (4, s.2)) (fun (_ : Unit) => True) w (cp_put w (t + 112) 4 (t_P B s.2)) := pz.put cq.rf (by decide)
    refine rd_fun24 (pr := pr) (hc'.tf tp c1.put) hs (fun c0 => ?_) (fun w' c' k' p' => hq w' c' ((kf.tf tp).tr k') ?_)
    · obtain ⟨-, a, a1, -⟩ := pp.z0 hs.1 c0
      cases a1
    · refine (pp.stay (s2 := f_fun (t_K B) (false, s.2 + 1)) (fun _ => hs.1) (fun z => (p' z).1)).cg2 (fun z c0 => ?_)
      rw [y_fun_eq, if_pos (show 6 ≤ pr.1.length by have := (hl c0).1.1; omega)]
end RF
